section
-- ===== PART A: goes FIRST, ahead of the names: the tables' words, and 'selects' of the private methods out of them =====
/-- a private method of a class that the tables say can be made, by its rows of tables_1 -/
def lw_okq (q : MethodName × Nat) : Prop := (q.1.cls ≠ "java/lang/invoke/MethodHandle" ∧ q.1.cls ≠ "java/lang/invoke/VarHandle") ∧ Cond.instantiable q.1.cls q.2 ∈ tables_1 ∧ Cond.privateMethod q.1 ∈ tables_1 ∧ Cond.instanceMethod q.1 ∈ tables_1
theorem lw_p0 : lw_okq (⟨"KnotNames$Text", "append", "(I)Z"⟩, 2) := ⟨⟨by decide +kernel, by decide +kernel⟩, List.mem_of_getElem? (i := 25) (by decide +kernel), List.mem_of_getElem? (i := 204) (by decide +kernel), List.mem_of_getElem? (i := 205) (by decide +kernel)⟩
theorem lw_p1 : lw_okq (⟨"KnotNames$Text", "empty", "()V"⟩, 2) := ⟨⟨by decide +kernel, by decide +kernel⟩, List.mem_of_getElem? (i := 25) (by decide +kernel), List.mem_of_getElem? (i := 212) (by decide +kernel), List.mem_of_getElem? (i := 213) (by decide +kernel)⟩
theorem lw_p2 : lw_okq (⟨"KnotNames$Text", "fault", "()I"⟩, 2) := ⟨⟨by decide +kernel, by decide +kernel⟩, List.mem_of_getElem? (i := 25) (by decide +kernel), List.mem_of_getElem? (i := 220) (by decide +kernel), List.mem_of_getElem? (i := 221) (by decide +kernel)⟩
theorem lw_p3 : lw_okq (⟨"KnotNames$Text", "tell", "(LKnotNames$Camp;)V"⟩, 2) := ⟨⟨by decide +kernel, by decide +kernel⟩, List.mem_of_getElem? (i := 25) (by decide +kernel), List.mem_of_getElem? (i := 312) (by decide +kernel), List.mem_of_getElem? (i := 313) (by decide +kernel)⟩
theorem lw_p4 : lw_okq (⟨"KnotNames$Camp", "empty", "()V"⟩, 3) := ⟨⟨by decide +kernel, by decide +kernel⟩, List.mem_of_getElem? (i := 40) (by decide +kernel), List.mem_of_getElem? (i := 316) (by decide +kernel), List.mem_of_getElem? (i := 317) (by decide +kernel)⟩
theorem lw_p5 : lw_okq (⟨"KnotNames$Row", "empty", "()I"⟩, 2) := ⟨⟨by decide +kernel, by decide +kernel⟩, List.mem_of_getElem? (i := 47) (by decide +kernel), List.mem_of_getElem? (i := 320) (by decide +kernel), List.mem_of_getElem? (i := 321) (by decide +kernel)⟩
theorem lw_p6 : lw_okq (⟨"KnotNames$Camp", "addHerder", "()V"⟩, 3) := ⟨⟨by decide +kernel, by decide +kernel⟩, List.mem_of_getElem? (i := 40) (by decide +kernel), List.mem_of_getElem? (i := 324) (by decide +kernel), List.mem_of_getElem? (i := 325) (by decide +kernel)⟩
theorem lw_p7 : lw_okq (⟨"KnotNames$Camp", "tieLastHerder", "(I)V"⟩, 3) := ⟨⟨by decide +kernel, by decide +kernel⟩, List.mem_of_getElem? (i := 40) (by decide +kernel), List.mem_of_getElem? (i := 328) (by decide +kernel), List.mem_of_getElem? (i := 329) (by decide +kernel)⟩
theorem lw_p8 : lw_okq (⟨"KnotNames$Row", "appendTight", "(I)V"⟩, 2) := ⟨⟨by decide +kernel, by decide +kernel⟩, List.mem_of_getElem? (i := 47) (by decide +kernel), List.mem_of_getElem? (i := 332) (by decide +kernel), List.mem_of_getElem? (i := 333) (by decide +kernel)⟩
theorem lw_p9 : lw_okq (⟨"KnotNames$Row", "endsUndoing", "(I)Z"⟩, 2) := ⟨⟨by decide +kernel, by decide +kernel⟩, List.mem_of_getElem? (i := 47) (by decide +kernel), List.mem_of_getElem? (i := 336) (by decide +kernel), List.mem_of_getElem? (i := 337) (by decide +kernel)⟩
theorem lw_p10 : lw_okq (⟨"KnotNames$Row", "dropLast", "()V"⟩, 2) := ⟨⟨by decide +kernel, by decide +kernel⟩, List.mem_of_getElem? (i := 47) (by decide +kernel), List.mem_of_getElem? (i := 343) (by decide +kernel), List.mem_of_getElem? (i := 344) (by decide +kernel)⟩
theorem lw_p11 : lw_okq (⟨"KnotNames$Row", "append", "(I)V"⟩, 2) := ⟨⟨by decide +kernel, by decide +kernel⟩, List.mem_of_getElem? (i := 47) (by decide +kernel), List.mem_of_getElem? (i := 347) (by decide +kernel), List.mem_of_getElem? (i := 348) (by decide +kernel)⟩
theorem lw_p12 : lw_okq (⟨"KnotNames$Past", "forget", "()V"⟩, 3) := ⟨⟨by decide +kernel, by decide +kernel⟩, List.mem_of_getElem? (i := 82) (by decide +kernel), List.mem_of_getElem? (i := 351) (by decide +kernel), List.mem_of_getElem? (i := 352) (by decide +kernel)⟩
theorem lw_p13 : lw_okq (⟨"KnotNames$Camp", "has", "(I)Z"⟩, 3) := ⟨⟨by decide +kernel, by decide +kernel⟩, List.mem_of_getElem? (i := 40) (by decide +kernel), List.mem_of_getElem? (i := 360) (by decide +kernel), List.mem_of_getElem? (i := 361) (by decide +kernel)⟩
theorem lw_p14 : lw_okq (⟨"KnotNames$Camp", "nameOf", "(I)LKnotNames$Row;"⟩, 3) := ⟨⟨by decide +kernel, by decide +kernel⟩, List.mem_of_getElem? (i := 40) (by decide +kernel), List.mem_of_getElem? (i := 365) (by decide +kernel), List.mem_of_getElem? (i := 366) (by decide +kernel)⟩
theorem lw_p15 : lw_okq (⟨"KnotNames$Row", "at", "(I)I"⟩, 2) := ⟨⟨by decide +kernel, by decide +kernel⟩, List.mem_of_getElem? (i := 47) (by decide +kernel), List.mem_of_getElem? (i := 372) (by decide +kernel), List.mem_of_getElem? (i := 373) (by decide +kernel)⟩
def lw_privs_1 : List (MethodName × Nat) := [(⟨"KnotNames$Text", "append", "(I)Z"⟩, 2), (⟨"KnotNames$Text", "empty", "()V"⟩, 2), (⟨"KnotNames$Text", "fault", "()I"⟩, 2), (⟨"KnotNames$Text", "tell", "(LKnotNames$Camp;)V"⟩, 2), (⟨"KnotNames$Camp", "empty", "()V"⟩, 3), (⟨"KnotNames$Row", "empty", "()I"⟩, 2), (⟨"KnotNames$Camp", "addHerder", "()V"⟩, 3), (⟨"KnotNames$Camp", "tieLastHerder", "(I)V"⟩, 3), (⟨"KnotNames$Row", "appendTight", "(I)V"⟩, 2), (⟨"KnotNames$Row", "endsUndoing", "(I)Z"⟩, 2), (⟨"KnotNames$Row", "dropLast", "()V"⟩, 2), (⟨"KnotNames$Row", "append", "(I)V"⟩, 2), (⟨"KnotNames$Past", "forget", "()V"⟩, 3), (⟨"KnotNames$Camp", "has", "(I)Z"⟩, 3), (⟨"KnotNames$Camp", "nameOf", "(I)LKnotNames$Row;"⟩, 3), (⟨"KnotNames$Row", "at", "(I)I"⟩, 2)]
theorem lw_r1 : ∀ q ∈ lw_privs_1, lw_okq q := List.forall_mem_cons.mpr ⟨lw_p0, List.forall_mem_cons.mpr ⟨lw_p1, List.forall_mem_cons.mpr ⟨lw_p2, List.forall_mem_cons.mpr ⟨lw_p3, List.forall_mem_cons.mpr ⟨lw_p4, List.forall_mem_cons.mpr ⟨lw_p5, List.forall_mem_cons.mpr ⟨lw_p6, List.forall_mem_cons.mpr ⟨lw_p7, List.forall_mem_cons.mpr ⟨lw_p8, List.forall_mem_cons.mpr ⟨lw_p9, List.forall_mem_cons.mpr ⟨lw_p10, List.forall_mem_cons.mpr ⟨lw_p11, List.forall_mem_cons.mpr ⟨lw_p12, List.forall_mem_cons.mpr ⟨lw_p13, List.forall_mem_cons.mpr ⟨lw_p14, List.forall_mem_cons.mpr ⟨lw_p15, fun _ h => absurd h List.not_mem_nil⟩⟩⟩⟩⟩⟩⟩⟩⟩⟩⟩⟩⟩⟩⟩⟩
theorem lw_p16 : lw_okq (⟨"KnotNames$Camp", "named", "()I"⟩, 3) := ⟨⟨by decide +kernel, by decide +kernel⟩, List.mem_of_getElem? (i := 40) (by decide +kernel), List.mem_of_getElem? (i := 384) (by decide +kernel), List.mem_of_getElem? (i := 385) (by decide +kernel)⟩
theorem lw_p17 : lw_okq (⟨"KnotNames$Camp", "unlikeNames", "()I"⟩, 3) := ⟨⟨by decide +kernel, by decide +kernel⟩, List.mem_of_getElem? (i := 40) (by decide +kernel), List.mem_of_getElem? (i := 388) (by decide +kernel), List.mem_of_getElem? (i := 389) (by decide +kernel)⟩
theorem lw_p18 : lw_okq (⟨"KnotNames$Camp", "calledLike", "(I)I"⟩, 3) := ⟨⟨by decide +kernel, by decide +kernel⟩, List.mem_of_getElem? (i := 40) (by decide +kernel), List.mem_of_getElem? (i := 392) (by decide +kernel), List.mem_of_getElem? (i := 393) (by decide +kernel)⟩
theorem lw_p19 : lw_okq (⟨"KnotNames$Row", "isLike", "(LKnotNames$Row;)Z"⟩, 2) := ⟨⟨by decide +kernel, by decide +kernel⟩, List.mem_of_getElem? (i := 47) (by decide +kernel), List.mem_of_getElem? (i := 396) (by decide +kernel), List.mem_of_getElem? (i := 397) (by decide +kernel)⟩
theorem lw_p20 : lw_okq (⟨"KnotNames$Row", "commonStart", "(LKnotNames$Row;)I"⟩, 2) := ⟨⟨by decide +kernel, by decide +kernel⟩, List.mem_of_getElem? (i := 47) (by decide +kernel), List.mem_of_getElem? (i := 400) (by decide +kernel), List.mem_of_getElem? (i := 401) (by decide +kernel)⟩
theorem lw_p21 : lw_okq (⟨"KnotNames$Camp", "turns", "()I"⟩, 3) := ⟨⟨by decide +kernel, by decide +kernel⟩, List.mem_of_getElem? (i := 40) (by decide +kernel), List.mem_of_getElem? (i := 406) (by decide +kernel), List.mem_of_getElem? (i := 407) (by decide +kernel)⟩
theorem lw_p22 : lw_okq (⟨"KnotNames$Row", "takesTight", "(I)Z"⟩, 2) := ⟨⟨by decide +kernel, by decide +kernel⟩, List.mem_of_getElem? (i := 47) (by decide +kernel), List.mem_of_getElem? (i := 417) (by decide +kernel), List.mem_of_getElem? (i := 418) (by decide +kernel)⟩
theorem lw_p23 : lw_okq (⟨"KnotNames$Past", "remember", "(LKnotNames$Camp;)V"⟩, 3) := ⟨⟨by decide +kernel, by decide +kernel⟩, List.mem_of_getElem? (i := 82) (by decide +kernel), List.mem_of_getElem? (i := 421) (by decide +kernel), List.mem_of_getElem? (i := 422) (by decide +kernel)⟩
theorem lw_p24 : lw_okq (⟨"KnotNames$Camp", "become", "(LKnotNames$Camp;)V"⟩, 3) := ⟨⟨by decide +kernel, by decide +kernel⟩, List.mem_of_getElem? (i := 40) (by decide +kernel), List.mem_of_getElem? (i := 425) (by decide +kernel), List.mem_of_getElem? (i := 426) (by decide +kernel)⟩
theorem lw_p25 : lw_okq (⟨"KnotNames$Row", "become", "(LKnotNames$Row;)V"⟩, 2) := ⟨⟨by decide +kernel, by decide +kernel⟩, List.mem_of_getElem? (i := 47) (by decide +kernel), List.mem_of_getElem? (i := 429) (by decide +kernel), List.mem_of_getElem? (i := 430) (by decide +kernel)⟩
theorem lw_p26 : lw_okq (⟨"KnotNames$Row", "last", "()I"⟩, 2) := ⟨⟨by decide +kernel, by decide +kernel⟩, List.mem_of_getElem? (i := 47) (by decide +kernel), List.mem_of_getElem? (i := 439) (by decide +kernel), List.mem_of_getElem? (i := 440) (by decide +kernel)⟩
theorem lw_p27 : lw_okq (⟨"KnotNames$Row", "becomeJoined", "(LKnotNames$Row;LKnotNames$Row;)V"⟩, 2) := ⟨⟨by decide +kernel, by decide +kernel⟩, List.mem_of_getElem? (i := 47) (by decide +kernel), List.mem_of_getElem? (i := 448) (by decide +kernel), List.mem_of_getElem? (i := 449) (by decide +kernel)⟩
theorem lw_p28 : lw_okq (⟨"KnotNames$Row", "becomeTight", "(LKnotNames$Row;)V"⟩, 2) := ⟨⟨by decide +kernel, by decide +kernel⟩, List.mem_of_getElem? (i := 47) (by decide +kernel), List.mem_of_getElem? (i := 452) (by decide +kernel), List.mem_of_getElem? (i := 453) (by decide +kernel)⟩
theorem lw_p29 : lw_okq (⟨"KnotNames$Row", "appendAllTight", "(LKnotNames$Row;)V"⟩, 2) := ⟨⟨by decide +kernel, by decide +kernel⟩, List.mem_of_getElem? (i := 47) (by decide +kernel), List.mem_of_getElem? (i := 456) (by decide +kernel), List.mem_of_getElem? (i := 457) (by decide +kernel)⟩
theorem lw_p30 : lw_okq (⟨"KnotNames$Past", "takeBack", "(LKnotNames$Camp;)V"⟩, 3) := ⟨⟨by decide +kernel, by decide +kernel⟩, List.mem_of_getElem? (i := 82) (by decide +kernel), List.mem_of_getElem? (i := 480) (by decide +kernel), List.mem_of_getElem? (i := 481) (by decide +kernel)⟩
theorem lw_p31 : lw_okq (⟨"KnotNames$Row", "isRingOf", "(LKnotNames$Row;)Z"⟩, 2) := ⟨⟨by decide +kernel, by decide +kernel⟩, List.mem_of_getElem? (i := 47) (by decide +kernel), List.mem_of_getElem? (i := 493) (by decide +kernel), List.mem_of_getElem? (i := 494) (by decide +kernel)⟩
def lw_privs_2 : List (MethodName × Nat) := [(⟨"KnotNames$Camp", "named", "()I"⟩, 3), (⟨"KnotNames$Camp", "unlikeNames", "()I"⟩, 3), (⟨"KnotNames$Camp", "calledLike", "(I)I"⟩, 3), (⟨"KnotNames$Row", "isLike", "(LKnotNames$Row;)Z"⟩, 2), (⟨"KnotNames$Row", "commonStart", "(LKnotNames$Row;)I"⟩, 2), (⟨"KnotNames$Camp", "turns", "()I"⟩, 3), (⟨"KnotNames$Row", "takesTight", "(I)Z"⟩, 2), (⟨"KnotNames$Past", "remember", "(LKnotNames$Camp;)V"⟩, 3), (⟨"KnotNames$Camp", "become", "(LKnotNames$Camp;)V"⟩, 3), (⟨"KnotNames$Row", "become", "(LKnotNames$Row;)V"⟩, 2), (⟨"KnotNames$Row", "last", "()I"⟩, 2), (⟨"KnotNames$Row", "becomeJoined", "(LKnotNames$Row;LKnotNames$Row;)V"⟩, 2), (⟨"KnotNames$Row", "becomeTight", "(LKnotNames$Row;)V"⟩, 2), (⟨"KnotNames$Row", "appendAllTight", "(LKnotNames$Row;)V"⟩, 2), (⟨"KnotNames$Past", "takeBack", "(LKnotNames$Camp;)V"⟩, 3), (⟨"KnotNames$Row", "isRingOf", "(LKnotNames$Row;)Z"⟩, 2)]
theorem lw_r2 : ∀ q ∈ lw_privs_2, lw_okq q := List.forall_mem_cons.mpr ⟨lw_p16, List.forall_mem_cons.mpr ⟨lw_p17, List.forall_mem_cons.mpr ⟨lw_p18, List.forall_mem_cons.mpr ⟨lw_p19, List.forall_mem_cons.mpr ⟨lw_p20, List.forall_mem_cons.mpr ⟨lw_p21, List.forall_mem_cons.mpr ⟨lw_p22, List.forall_mem_cons.mpr ⟨lw_p23, List.forall_mem_cons.mpr ⟨lw_p24, List.forall_mem_cons.mpr ⟨lw_p25, List.forall_mem_cons.mpr ⟨lw_p26, List.forall_mem_cons.mpr ⟨lw_p27, List.forall_mem_cons.mpr ⟨lw_p28, List.forall_mem_cons.mpr ⟨lw_p29, List.forall_mem_cons.mpr ⟨lw_p30, List.forall_mem_cons.mpr ⟨lw_p31, fun _ h => absurd h List.not_mem_nil⟩⟩⟩⟩⟩⟩⟩⟩⟩⟩⟩⟩⟩⟩⟩⟩
theorem lw_p32 : lw_okq (⟨"KnotNames$Row", "lostByBending", "()I"⟩, 2) := ⟨⟨by decide +kernel, by decide +kernel⟩, List.mem_of_getElem? (i := 47) (by decide +kernel), List.mem_of_getElem? (i := 497) (by decide +kernel), List.mem_of_getElem? (i := 498) (by decide +kernel)⟩
theorem lw_p33 : lw_okq (⟨"KnotNames$Row", "isRingBegunAt", "(ILKnotNames$Row;III)Z"⟩, 2) := ⟨⟨by decide +kernel, by decide +kernel⟩, List.mem_of_getElem? (i := 47) (by decide +kernel), List.mem_of_getElem? (i := 501) (by decide +kernel), List.mem_of_getElem? (i := 502) (by decide +kernel)⟩
theorem lw_p34 : lw_okq (⟨"KnotNames$Row", "shortestRepeated", "()I"⟩, 2) := ⟨⟨by decide +kernel, by decide +kernel⟩, List.mem_of_getElem? (i := 47) (by decide +kernel), List.mem_of_getElem? (i := 514) (by decide +kernel), List.mem_of_getElem? (i := 515) (by decide +kernel)⟩
theorem lw_p35 : lw_okq (⟨"KnotNames$Row", "repeats", "(I)Z"⟩, 2) := ⟨⟨by decide +kernel, by decide +kernel⟩, List.mem_of_getElem? (i := 47) (by decide +kernel), List.mem_of_getElem? (i := 518) (by decide +kernel), List.mem_of_getElem? (i := 519) (by decide +kernel)⟩
theorem lw_p36 : lw_okq (⟨"KnotNames$Row", "compareWith", "(LKnotNames$Row;)I"⟩, 2) := ⟨⟨by decide +kernel, by decide +kernel⟩, List.mem_of_getElem? (i := 47) (by decide +kernel), List.mem_of_getElem? (i := 526) (by decide +kernel), List.mem_of_getElem? (i := 527) (by decide +kernel)⟩
theorem lw_p37 : lw_okq (⟨"KnotNames$Row", "differences", "(LKnotNames$Row;)I"⟩, 2) := ⟨⟨by decide +kernel, by decide +kernel⟩, List.mem_of_getElem? (i := 47) (by decide +kernel), List.mem_of_getElem? (i := 557) (by decide +kernel), List.mem_of_getElem? (i := 558) (by decide +kernel)⟩
theorem lw_p38 : lw_okq (⟨"KnotNames$NewNames", "find", "(LKnotNames$Camp;II)V"⟩, 3) := ⟨⟨by decide +kernel, by decide +kernel⟩, List.mem_of_getElem? (i := 136) (by decide +kernel), List.mem_of_getElem? (i := 565) (by decide +kernel), List.mem_of_getElem? (i := 566) (by decide +kernel)⟩
theorem lw_p39 : lw_okq (⟨"KnotNames$NewNames", "spell", "(II)V"⟩, 3) := ⟨⟨by decide +kernel, by decide +kernel⟩, List.mem_of_getElem? (i := 136) (by decide +kernel), List.mem_of_getElem? (i := 570) (by decide +kernel), List.mem_of_getElem? (i := 571) (by decide +kernel)⟩
theorem lw_p40 : lw_okq (⟨"KnotNames$Row", "isTight", "()Z"⟩, 2) := ⟨⟨by decide +kernel, by decide +kernel⟩, List.mem_of_getElem? (i := 47) (by decide +kernel), List.mem_of_getElem? (i := 577) (by decide +kernel), List.mem_of_getElem? (i := 578) (by decide +kernel)⟩
theorem lw_p41 : lw_okq (⟨"KnotNames$NewNames", "isFar", "(LKnotNames$Camp;I)Z"⟩, 3) := ⟨⟨by decide +kernel, by decide +kernel⟩, List.mem_of_getElem? (i := 136) (by decide +kernel), List.mem_of_getElem? (i := 581) (by decide +kernel), List.mem_of_getElem? (i := 582) (by decide +kernel)⟩
theorem lw_p42 : lw_okq (⟨"KnotNames", "mostPairs", "(LKnotNames$Row;)I"⟩, 12) := ⟨⟨by decide +kernel, by decide +kernel⟩, List.mem_of_getElem? (i := 17) (by decide +kernel), List.mem_of_getElem? (i := 593) (by decide +kernel), List.mem_of_getElem? (i := 594) (by decide +kernel)⟩
theorem lw_p43 : lw_okq (⟨"KnotNames", "mostPairsWithin", "(LKnotNames$Row;II)I"⟩, 12) := ⟨⟨by decide +kernel, by decide +kernel⟩, List.mem_of_getElem? (i := 17) (by decide +kernel), List.mem_of_getElem? (i := 598) (by decide +kernel), List.mem_of_getElem? (i := 599) (by decide +kernel)⟩
theorem lw_p44 : lw_okq (⟨"KnotNames$Lives", "readBack", "(LKnotNames$Camp;)V"⟩, 7) := ⟨⟨by decide +kernel, by decide +kernel⟩, List.mem_of_getElem? (i := 102) (by decide +kernel), List.mem_of_getElem? (i := 608) (by decide +kernel), List.mem_of_getElem? (i := 609) (by decide +kernel)⟩
theorem lw_p45 : lw_okq (⟨"KnotNames$Lives", "note", "(I)V"⟩, 7) := ⟨⟨by decide +kernel, by decide +kernel⟩, List.mem_of_getElem? (i := 102) (by decide +kernel), List.mem_of_getElem? (i := 620) (by decide +kernel), List.mem_of_getElem? (i := 621) (by decide +kernel)⟩
theorem lw_p46 : lw_okq (⟨"KnotNames$Row", "appendAllUndoing", "(LKnotNames$Row;)V"⟩, 2) := ⟨⟨by decide +kernel, by decide +kernel⟩, List.mem_of_getElem? (i := 47) (by decide +kernel), List.mem_of_getElem? (i := 624) (by decide +kernel), List.mem_of_getElem? (i := 625) (by decide +kernel)⟩
theorem lw_p47 : lw_okq (⟨"KnotNames$Lives", "inMost", "()I"⟩, 7) := ⟨⟨by decide +kernel, by decide +kernel⟩, List.mem_of_getElem? (i := 102) (by decide +kernel), List.mem_of_getElem? (i := 632) (by decide +kernel), List.mem_of_getElem? (i := 633) (by decide +kernel)⟩
def lw_privs_3 : List (MethodName × Nat) := [(⟨"KnotNames$Row", "lostByBending", "()I"⟩, 2), (⟨"KnotNames$Row", "isRingBegunAt", "(ILKnotNames$Row;III)Z"⟩, 2), (⟨"KnotNames$Row", "shortestRepeated", "()I"⟩, 2), (⟨"KnotNames$Row", "repeats", "(I)Z"⟩, 2), (⟨"KnotNames$Row", "compareWith", "(LKnotNames$Row;)I"⟩, 2), (⟨"KnotNames$Row", "differences", "(LKnotNames$Row;)I"⟩, 2), (⟨"KnotNames$NewNames", "find", "(LKnotNames$Camp;II)V"⟩, 3), (⟨"KnotNames$NewNames", "spell", "(II)V"⟩, 3), (⟨"KnotNames$Row", "isTight", "()Z"⟩, 2), (⟨"KnotNames$NewNames", "isFar", "(LKnotNames$Camp;I)Z"⟩, 3), (⟨"KnotNames", "mostPairs", "(LKnotNames$Row;)I"⟩, 12), (⟨"KnotNames", "mostPairsWithin", "(LKnotNames$Row;II)I"⟩, 12), (⟨"KnotNames$Lives", "readBack", "(LKnotNames$Camp;)V"⟩, 7), (⟨"KnotNames$Lives", "note", "(I)V"⟩, 7), (⟨"KnotNames$Row", "appendAllUndoing", "(LKnotNames$Row;)V"⟩, 2), (⟨"KnotNames$Lives", "inMost", "()I"⟩, 7)]
theorem lw_r3 : ∀ q ∈ lw_privs_3, lw_okq q := List.forall_mem_cons.mpr ⟨lw_p32, List.forall_mem_cons.mpr ⟨lw_p33, List.forall_mem_cons.mpr ⟨lw_p34, List.forall_mem_cons.mpr ⟨lw_p35, List.forall_mem_cons.mpr ⟨lw_p36, List.forall_mem_cons.mpr ⟨lw_p37, List.forall_mem_cons.mpr ⟨lw_p38, List.forall_mem_cons.mpr ⟨lw_p39, List.forall_mem_cons.mpr ⟨lw_p40, List.forall_mem_cons.mpr ⟨lw_p41, List.forall_mem_cons.mpr ⟨lw_p42, List.forall_mem_cons.mpr ⟨lw_p43, List.forall_mem_cons.mpr ⟨lw_p44, List.forall_mem_cons.mpr ⟨lw_p45, List.forall_mem_cons.mpr ⟨lw_p46, List.forall_mem_cons.mpr ⟨lw_p47, fun _ h => absurd h List.not_mem_nil⟩⟩⟩⟩⟩⟩⟩⟩⟩⟩⟩⟩⟩⟩⟩⟩
theorem lw_p48 : lw_okq (⟨"KnotNames", "asHerder", "(I)I"⟩, 12) := ⟨⟨by decide +kernel, by decide +kernel⟩, List.mem_of_getElem? (i := 17) (by decide +kernel), List.mem_of_getElem? (i := 658) (by decide +kernel), List.mem_of_getElem? (i := 659) (by decide +kernel)⟩
theorem lw_p49 : lw_okq (⟨"KnotNames", "asChief", "(I)I"⟩, 12) := ⟨⟨by decide +kernel, by decide +kernel⟩, List.mem_of_getElem? (i := 17) (by decide +kernel), List.mem_of_getElem? (i := 662) (by decide +kernel), List.mem_of_getElem? (i := 663) (by decide +kernel)⟩
theorem lw_p50 : lw_okq (⟨"KnotNames", "asLiar", "(I)I"⟩, 12) := ⟨⟨by decide +kernel, by decide +kernel⟩, List.mem_of_getElem? (i := 17) (by decide +kernel), List.mem_of_getElem? (i := 667) (by decide +kernel), List.mem_of_getElem? (i := 668) (by decide +kernel)⟩
theorem lw_p51 : lw_okq (⟨"KnotNames", "asFist", "(I)I"⟩, 12) := ⟨⟨by decide +kernel, by decide +kernel⟩, List.mem_of_getElem? (i := 17) (by decide +kernel), List.mem_of_getElem? (i := 672) (by decide +kernel), List.mem_of_getElem? (i := 673) (by decide +kernel)⟩
theorem lw_p52 : lw_okq (⟨"KnotNames", "asThief", "(I)I"⟩, 12) := ⟨⟨by decide +kernel, by decide +kernel⟩, List.mem_of_getElem? (i := 17) (by decide +kernel), List.mem_of_getElem? (i := 677) (by decide +kernel), List.mem_of_getElem? (i := 678) (by decide +kernel)⟩
theorem lw_p53 : lw_okq (⟨"KnotNames", "asWidow", "(I)I"⟩, 12) := ⟨⟨by decide +kernel, by decide +kernel⟩, List.mem_of_getElem? (i := 17) (by decide +kernel), List.mem_of_getElem? (i := 682) (by decide +kernel), List.mem_of_getElem? (i := 683) (by decide +kernel)⟩
theorem lw_p54 : lw_okq (⟨"KnotNamesModel", "ahead", "()I"⟩, 20) := ⟨⟨by decide +kernel, by decide +kernel⟩, List.mem_of_getElem? (i := 704) (by decide +kernel), List.mem_of_getElem? (i := 787) (by decide +kernel), List.mem_of_getElem? (i := 788) (by decide +kernel)⟩
theorem lw_p55 : lw_okq (⟨"KnotNamesModel", "takesHerder", "(I)Z"⟩, 20) := ⟨⟨by decide +kernel, by decide +kernel⟩, List.mem_of_getElem? (i := 704) (by decide +kernel), List.mem_of_getElem? (i := 791) (by decide +kernel), List.mem_of_getElem? (i := 792) (by decide +kernel)⟩
theorem lw_p56 : lw_okq (⟨"KnotNamesModel", "tie", "(I)V"⟩, 20) := ⟨⟨by decide +kernel, by decide +kernel⟩, List.mem_of_getElem? (i := 704) (by decide +kernel), List.mem_of_getElem? (i := 798) (by decide +kernel), List.mem_of_getElem? (i := 799) (by decide +kernel)⟩
theorem lw_p57 : lw_okq (⟨"KnotNamesModel", "isHerder", "(I)Z"⟩, 20) := ⟨⟨by decide +kernel, by decide +kernel⟩, List.mem_of_getElem? (i := 704) (by decide +kernel), List.mem_of_getElem? (i := 809) (by decide +kernel), List.mem_of_getElem? (i := 810) (by decide +kernel)⟩
theorem lw_p58 : lw_okq (⟨"KnotNamesModel", "namesThere", "()I"⟩, 20) := ⟨⟨by decide +kernel, by decide +kernel⟩, List.mem_of_getElem? (i := 704) (by decide +kernel), List.mem_of_getElem? (i := 822) (by decide +kernel), List.mem_of_getElem? (i := 823) (by decide +kernel)⟩
theorem lw_p59 : lw_okq (⟨"KnotNamesModel", "alikeOf", "(I)I"⟩, 20) := ⟨⟨by decide +kernel, by decide +kernel⟩, List.mem_of_getElem? (i := 704) (by decide +kernel), List.mem_of_getElem? (i := 826) (by decide +kernel), List.mem_of_getElem? (i := 827) (by decide +kernel)⟩
theorem lw_p60 : lw_okq (⟨"KnotNamesModel", "nearTo", "(II)I"⟩, 20) := ⟨⟨by decide +kernel, by decide +kernel⟩, List.mem_of_getElem? (i := 704) (by decide +kernel), List.mem_of_getElem? (i := 830) (by decide +kernel), List.mem_of_getElem? (i := 831) (by decide +kernel)⟩
theorem lw_p61 : lw_okq (⟨"KnotNamesModel", "unlike", "(II)I"⟩, 20) := ⟨⟨by decide +kernel, by decide +kernel⟩, List.mem_of_getElem? (i := 704) (by decide +kernel), List.mem_of_getElem? (i := 834) (by decide +kernel), List.mem_of_getElem? (i := 835) (by decide +kernel)⟩
theorem lw_p62 : lw_okq (⟨"KnotNamesModel", "turnAt", "(II)I"⟩, 20) := ⟨⟨by decide +kernel, by decide +kernel⟩, List.mem_of_getElem? (i := 704) (by decide +kernel), List.mem_of_getElem? (i := 839) (by decide +kernel), List.mem_of_getElem? (i := 840) (by decide +kernel)⟩
theorem lw_p63 : lw_okq (⟨"KnotNamesModel", "turnsOfAll", "()I"⟩, 20) := ⟨⟨by decide +kernel, by decide +kernel⟩, List.mem_of_getElem? (i := 704) (by decide +kernel), List.mem_of_getElem? (i := 843) (by decide +kernel), List.mem_of_getElem? (i := 844) (by decide +kernel)⟩
def lw_privs_4 : List (MethodName × Nat) := [(⟨"KnotNames", "asHerder", "(I)I"⟩, 12), (⟨"KnotNames", "asChief", "(I)I"⟩, 12), (⟨"KnotNames", "asLiar", "(I)I"⟩, 12), (⟨"KnotNames", "asFist", "(I)I"⟩, 12), (⟨"KnotNames", "asThief", "(I)I"⟩, 12), (⟨"KnotNames", "asWidow", "(I)I"⟩, 12), (⟨"KnotNamesModel", "ahead", "()I"⟩, 20), (⟨"KnotNamesModel", "takesHerder", "(I)Z"⟩, 20), (⟨"KnotNamesModel", "tie", "(I)V"⟩, 20), (⟨"KnotNamesModel", "isHerder", "(I)Z"⟩, 20), (⟨"KnotNamesModel", "namesThere", "()I"⟩, 20), (⟨"KnotNamesModel", "alikeOf", "(I)I"⟩, 20), (⟨"KnotNamesModel", "nearTo", "(II)I"⟩, 20), (⟨"KnotNamesModel", "unlike", "(II)I"⟩, 20), (⟨"KnotNamesModel", "turnAt", "(II)I"⟩, 20), (⟨"KnotNamesModel", "turnsOfAll", "()I"⟩, 20)]
theorem lw_r4 : ∀ q ∈ lw_privs_4, lw_okq q := List.forall_mem_cons.mpr ⟨lw_p48, List.forall_mem_cons.mpr ⟨lw_p49, List.forall_mem_cons.mpr ⟨lw_p50, List.forall_mem_cons.mpr ⟨lw_p51, List.forall_mem_cons.mpr ⟨lw_p52, List.forall_mem_cons.mpr ⟨lw_p53, List.forall_mem_cons.mpr ⟨lw_p54, List.forall_mem_cons.mpr ⟨lw_p55, List.forall_mem_cons.mpr ⟨lw_p56, List.forall_mem_cons.mpr ⟨lw_p57, List.forall_mem_cons.mpr ⟨lw_p58, List.forall_mem_cons.mpr ⟨lw_p59, List.forall_mem_cons.mpr ⟨lw_p60, List.forall_mem_cons.mpr ⟨lw_p61, List.forall_mem_cons.mpr ⟨lw_p62, List.forall_mem_cons.mpr ⟨lw_p63, fun _ h => absurd h List.not_mem_nil⟩⟩⟩⟩⟩⟩⟩⟩⟩⟩⟩⟩⟩⟩⟩⟩
theorem lw_p64 : lw_okq (⟨"KnotNamesModel", "tieName", "(I)V"⟩, 20) := ⟨⟨by decide +kernel, by decide +kernel⟩, List.mem_of_getElem? (i := 704) (by decide +kernel), List.mem_of_getElem? (i := 855) (by decide +kernel), List.mem_of_getElem? (i := 856) (by decide +kernel)⟩
theorem lw_p65 : lw_okq (⟨"KnotNamesModel", "tieRow", "(II)V"⟩, 20) := ⟨⟨by decide +kernel, by decide +kernel⟩, List.mem_of_getElem? (i := 704) (by decide +kernel), List.mem_of_getElem? (i := 859) (by decide +kernel), List.mem_of_getElem? (i := 860) (by decide +kernel)⟩
theorem lw_p66 : lw_okq (⟨"KnotNamesModel", "remember", "()V"⟩, 20) := ⟨⟨by decide +kernel, by decide +kernel⟩, List.mem_of_getElem? (i := 704) (by decide +kernel), List.mem_of_getElem? (i := 863) (by decide +kernel), List.mem_of_getElem? (i := 864) (by decide +kernel)⟩
theorem lw_p67 : lw_okq (⟨"KnotNamesModel", "names", "(I)V"⟩, 20) := ⟨⟨by decide +kernel, by decide +kernel⟩, List.mem_of_getElem? (i := 704) (by decide +kernel), List.mem_of_getElem? (i := 867) (by decide +kernel), List.mem_of_getElem? (i := 868) (by decide +kernel)⟩
theorem lw_p68 : lw_okq (⟨"KnotNamesModel", "isRing", "(II)Z"⟩, 20) := ⟨⟨by decide +kernel, by decide +kernel⟩, List.mem_of_getElem? (i := 704) (by decide +kernel), List.mem_of_getElem? (i := 903) (by decide +kernel), List.mem_of_getElem? (i := 904) (by decide +kernel)⟩
theorem lw_p69 : lw_okq (⟨"KnotNamesModel", "ends", "(I)I"⟩, 20) := ⟨⟨by decide +kernel, by decide +kernel⟩, List.mem_of_getElem? (i := 704) (by decide +kernel), List.mem_of_getElem? (i := 907) (by decide +kernel), List.mem_of_getElem? (i := 908) (by decide +kernel)⟩
theorem lw_p70 : lw_okq (⟨"KnotNamesModel", "rootOf", "(I)I"⟩, 20) := ⟨⟨by decide +kernel, by decide +kernel⟩, List.mem_of_getElem? (i := 704) (by decide +kernel), List.mem_of_getElem? (i := 919) (by decide +kernel), List.mem_of_getElem? (i := 920) (by decide +kernel)⟩
theorem lw_p71 : lw_okq (⟨"KnotNamesModel", "isAhead", "(II)Z"⟩, 20) := ⟨⟨by decide +kernel, by decide +kernel⟩, List.mem_of_getElem? (i := 704) (by decide +kernel), List.mem_of_getElem? (i := 927) (by decide +kernel), List.mem_of_getElem? (i := 928) (by decide +kernel)⟩
theorem lw_p72 : lw_okq (⟨"KnotNamesModel", "isNew", "(III)Z"⟩, 20) := ⟨⟨by decide +kernel, by decide +kernel⟩, List.mem_of_getElem? (i := 704) (by decide +kernel), List.mem_of_getElem? (i := 952) (by decide +kernel), List.mem_of_getElem? (i := 953) (by decide +kernel)⟩
theorem lw_p73 : lw_okq (⟨"KnotNamesModel", "tieContract", "()V"⟩, 20) := ⟨⟨by decide +kernel, by decide +kernel⟩, List.mem_of_getElem? (i := 704) (by decide +kernel), List.mem_of_getElem? (i := 961) (by decide +kernel), List.mem_of_getElem? (i := 962) (by decide +kernel)⟩
theorem lw_p74 : lw_okq (⟨"KnotNamesModel", "mend", "()I"⟩, 20) := ⟨⟨by decide +kernel, by decide +kernel⟩, List.mem_of_getElem? (i := 704) (by decide +kernel), List.mem_of_getElem? (i := 965) (by decide +kernel), List.mem_of_getElem? (i := 966) (by decide +kernel)⟩
theorem lw_p75 : lw_okq (⟨"KnotNamesModel", "layContract", "()V"⟩, 20) := ⟨⟨by decide +kernel, by decide +kernel⟩, List.mem_of_getElem? (i := 704) (by decide +kernel), List.mem_of_getElem? (i := 973) (by decide +kernel), List.mem_of_getElem? (i := 974) (by decide +kernel)⟩
theorem lw_p76 : lw_okq (⟨"KnotNamesModel", "isLife", "(II)Z"⟩, 20) := ⟨⟨by decide +kernel, by decide +kernel⟩, List.mem_of_getElem? (i := 704) (by decide +kernel), List.mem_of_getElem? (i := 977) (by decide +kernel), List.mem_of_getElem? (i := 978) (by decide +kernel)⟩
def lw_privs_5 : List (MethodName × Nat) := [(⟨"KnotNamesModel", "tieName", "(I)V"⟩, 20), (⟨"KnotNamesModel", "tieRow", "(II)V"⟩, 20), (⟨"KnotNamesModel", "remember", "()V"⟩, 20), (⟨"KnotNamesModel", "names", "(I)V"⟩, 20), (⟨"KnotNamesModel", "isRing", "(II)Z"⟩, 20), (⟨"KnotNamesModel", "ends", "(I)I"⟩, 20), (⟨"KnotNamesModel", "rootOf", "(I)I"⟩, 20), (⟨"KnotNamesModel", "isAhead", "(II)Z"⟩, 20), (⟨"KnotNamesModel", "isNew", "(III)Z"⟩, 20), (⟨"KnotNamesModel", "tieContract", "()V"⟩, 20), (⟨"KnotNamesModel", "mend", "()I"⟩, 20), (⟨"KnotNamesModel", "layContract", "()V"⟩, 20), (⟨"KnotNamesModel", "isLife", "(II)Z"⟩, 20)]
theorem lw_r5 : ∀ q ∈ lw_privs_5, lw_okq q := List.forall_mem_cons.mpr ⟨lw_p64, List.forall_mem_cons.mpr ⟨lw_p65, List.forall_mem_cons.mpr ⟨lw_p66, List.forall_mem_cons.mpr ⟨lw_p67, List.forall_mem_cons.mpr ⟨lw_p68, List.forall_mem_cons.mpr ⟨lw_p69, List.forall_mem_cons.mpr ⟨lw_p70, List.forall_mem_cons.mpr ⟨lw_p71, List.forall_mem_cons.mpr ⟨lw_p72, List.forall_mem_cons.mpr ⟨lw_p73, List.forall_mem_cons.mpr ⟨lw_p74, List.forall_mem_cons.mpr ⟨lw_p75, List.forall_mem_cons.mpr ⟨lw_p76, fun _ h => absurd h List.not_mem_nil⟩⟩⟩⟩⟩⟩⟩⟩⟩⟩⟩⟩⟩
def lw_privs : List (MethodName × Nat) := lw_privs_1 ++ (lw_privs_2 ++ (lw_privs_3 ++ (lw_privs_4 ++ (lw_privs_5))))
def lw_tbl : List Cond := k2_sels lw_privs ++ tables_1
theorem lw_privs_ok : ∀ q ∈ lw_privs, lw_okq q := by
  show ∀ q ∈ lw_privs_1 ++ (lw_privs_2 ++ (lw_privs_3 ++ (lw_privs_4 ++ (lw_privs_5)))), lw_okq q
  exact List.forall_mem_append.mpr ⟨lw_r1, List.forall_mem_append.mpr ⟨lw_r2, List.forall_mem_append.mpr ⟨lw_r3, List.forall_mem_append.mpr ⟨lw_r4, lw_r5⟩⟩⟩⟩
def RX0 : String := "KnotNames$Camp"
def TX0 : u_T := fun k => match k with
  | 0 => ("KnotNames$Camp", "names", "[LKnotNames$Row;", true)
  | 1 => ("KnotNames$Camp", "contract", "LKnotNames$Row;", true)
  | _ => ("KnotNames$Camp", "herders", "I", false)
def tyX0 : Nat → FieldType := fun k => match k with
  | 0 => .array (.object "KnotNames$Row")
  | 1 => .object "KnotNames$Row"
  | _ => .int
abbrev wsX00 : List Cond := u_ws RX0 TX0 3
theorem nmX0 : ∀ a, a < 3 → ∀ b, b < 3 → a ≠ b → (TX0 a).2.1 ≠ (TX0 b).2.1 := by decide +kernel
theorem tyX0_ok : ∀ k, k < 3 → parseFieldDescriptor (TX0 k).2.2.1 = some (tyX0 k) := by decide +kernel
def RX1 : String := "KnotNames$Lives"
def TX1 : u_T := fun k => match k with
  | 0 => ("KnotNames$Lives", "goal", "LKnotNames$Row;", true)
  | 1 => ("KnotNames$Lives", "joined", "LKnotNames$Row;", true)
  | 2 => ("KnotNames$Lives", "chosen", "[I", true)
  | 3 => ("KnotNames$Lives", "first", "[I", true)
  | 4 => ("KnotNames$Lives", "rowsOf", "[I", true)
  | 5 => ("KnotNames$Lives", "firstLength", "I", false)
  | _ => ("KnotNames$Lives", "howMany", "I", false)
def tyX1 : Nat → FieldType := fun k => match k with
  | 0 => .object "KnotNames$Row"
  | 1 => .object "KnotNames$Row"
  | 2 => .array .int
  | 3 => .array .int
  | 4 => .array .int
  | 5 => .int
  | _ => .int
abbrev wsX10 : List Cond := u_ws RX1 TX1 7
theorem nmX1 : ∀ a, a < 7 → ∀ b, b < 7 → a ≠ b → (TX1 a).2.1 ≠ (TX1 b).2.1 := by decide +kernel
theorem tyX1_ok : ∀ k, k < 7 → parseFieldDescriptor (TX1 k).2.2.1 = some (tyX1 k) := by decide +kernel
def RX2 : String := "KnotNames$NewNames"
def TX2 : u_T := fun k => match k with
  | 0 => ("KnotNames$NewNames", "first", "LKnotNames$Row;", true)
  | 1 => ("KnotNames$NewNames", "tried", "LKnotNames$Row;", true)
  | _ => ("KnotNames$NewNames", "howMany", "I", false)
def tyX2 : Nat → FieldType := fun k => match k with
  | 0 => .object "KnotNames$Row"
  | 1 => .object "KnotNames$Row"
  | _ => .int
abbrev wsX20 : List Cond := u_ws RX2 TX2 3
theorem nmX2 : ∀ a, a < 3 → ∀ b, b < 3 → a ≠ b → (TX2 a).2.1 ≠ (TX2 b).2.1 := by decide +kernel
theorem tyX2_ok : ∀ k, k < 3 → parseFieldDescriptor (TX2 k).2.2.1 = some (tyX2 k) := by decide +kernel
def RX3 : String := "KnotNames$Past"
def TX3 : u_T := fun k => match k with
  | 0 => ("KnotNames$Past", "camps", "[LKnotNames$Camp;", true)
  | 1 => ("KnotNames$Past", "newest", "I", false)
  | _ => ("KnotNames$Past", "known", "I", false)
def tyX3 : Nat → FieldType := fun k => match k with
  | 0 => .array (.object "KnotNames$Camp")
  | 1 => .int
  | _ => .int
abbrev wsX30 : List Cond := u_ws RX3 TX3 3
theorem nmX3 : ∀ a, a < 3 → ∀ b, b < 3 → a ≠ b → (TX3 a).2.1 ≠ (TX3 b).2.1 := by decide +kernel
theorem tyX3_ok : ∀ k, k < 3 → parseFieldDescriptor (TX3 k).2.2.1 = some (tyX3 k) := by decide +kernel
def RX4 : String := "KnotNames$Row"
def TX4 : u_T := fun k => match k with
  | 0 => ("KnotNames$Row", "turns", "[I", true)
  | _ => ("KnotNames$Row", "length", "I", false)
def tyX4 : Nat → FieldType := fun k => match k with
  | 0 => .array .int
  | _ => .int
abbrev wsX40 : List Cond := u_ws RX4 TX4 2
theorem nmX4 : ∀ a, a < 2 → ∀ b, b < 2 → a ≠ b → (TX4 a).2.1 ≠ (TX4 b).2.1 := by decide +kernel
theorem tyX4_ok : ∀ k, k < 2 → parseFieldDescriptor (TX4 k).2.2.1 = some (tyX4 k) := by decide +kernel
def RX5 : String := "KnotNames$Text"
def TX5 : u_T := fun k => match k with
  | 0 => ("KnotNames$Text", "letters", "[C", true)
  | _ => ("KnotNames$Text", "length", "I", false)
def tyX5 : Nat → FieldType := fun k => match k with
  | 0 => .array .char
  | _ => .int
abbrev wsX50 : List Cond := u_ws RX5 TX5 2
theorem nmX5 : ∀ a, a < 2 → ∀ b, b < 2 → a ≠ b → (TX5 a).2.1 ≠ (TX5 b).2.1 := by decide +kernel
theorem tyX5_ok : ∀ k, k < 2 → parseFieldDescriptor (TX5 k).2.2.1 = some (tyX5 k) := by decide +kernel
def RX6 : String := "KnotNames"
def TX6 : u_T := fun k => match k with
  | 0 => ("KnotNames", "text", "LKnotNames$Text;", true)
  | 1 => ("KnotNames", "current", "LKnotNames$Camp;", true)
  | 2 => ("KnotNames", "past", "LKnotNames$Past;", true)
  | 3 => ("KnotNames", "images", "[LKnotNames$Camp;", true)
  | 4 => ("KnotNames", "kept", "[Z", true)
  | 5 => ("KnotNames", "found", "LKnotNames$Lives;", true)
  | 6 => ("KnotNames", "free", "LKnotNames$NewNames;", true)
  | 7 => ("KnotNames", "firstBent", "LKnotNames$Row;", true)
  | 8 => ("KnotNames", "secondBent", "LKnotNames$Row;", true)
  | 9 => ("KnotNames", "tight", "LKnotNames$Row;", true)
  | 10 => ("KnotNames", "pairs", "[[I", true)
  | _ => ("KnotNames", "asked", "J", false)
def tyX6 : Nat → FieldType := fun k => match k with
  | 0 => .object "KnotNames$Text"
  | 1 => .object "KnotNames$Camp"
  | 2 => .object "KnotNames$Past"
  | 3 => .array (.object "KnotNames$Camp")
  | 4 => .array .boolean
  | 5 => .object "KnotNames$Lives"
  | 6 => .object "KnotNames$NewNames"
  | 7 => .object "KnotNames$Row"
  | 8 => .object "KnotNames$Row"
  | 9 => .object "KnotNames$Row"
  | 10 => .array (.array .int)
  | _ => .long
abbrev wsX60 : List Cond := u_ws RX6 TX6 12
theorem nmX6 : ∀ a, a < 12 → ∀ b, b < 12 → a ≠ b → (TX6 a).2.1 ≠ (TX6 b).2.1 := by decide +kernel
theorem tyX6_ok : ∀ k, k < 12 → parseFieldDescriptor (TX6 k).2.2.1 = some (tyX6 k) := by decide +kernel
def RX7 : String := "KnotNamesModel"
def TX7 : u_T := fun k => match k with
  | 0 => ("KnotNamesModel", "herders", "I", false)
  | 1 => ("KnotNamesModel", "now", "[I", true)
  | 2 => ("KnotNamesModel", "past", "[I", true)
  | 3 => ("KnotNamesModel", "undos", "I", false)
  | 4 => ("KnotNamesModel", "images", "[I", true)
  | 5 => ("KnotNamesModel", "kept", "[Z", true)
  | 6 => ("KnotNamesModel", "text", "[I", true)
  | 7 => ("KnotNamesModel", "size", "I", false)
  | 8 => ("KnotNamesModel", "trace", "J", false)
  | 9 => ("KnotNamesModel", "cord", "[I", true)
  | 10 => ("KnotNamesModel", "tied", "I", false)
  | 11 => ("KnotNamesModel", "read", "[I", true)
  | 12 => ("KnotNamesModel", "at", "I", false)
  | 13 => ("KnotNamesModel", "other", "[I", true)
  | 14 => ("KnotNamesModel", "told", "[I", true)
  | 15 => ("KnotNamesModel", "pairs", "[I", true)
  | 16 => ("KnotNamesModel", "row", "[I", true)
  | 17 => ("KnotNamesModel", "life", "[I", true)
  | 18 => ("KnotNamesModel", "lifeLong", "I", false)
  | _ => ("KnotNamesModel", "counts", "[I", true)
def tyX7 : Nat → FieldType := fun k => match k with
  | 0 => .int
  | 1 => .array .int
  | 2 => .array .int
  | 3 => .int
  | 4 => .array .int
  | 5 => .array .boolean
  | 6 => .array .int
  | 7 => .int
  | 8 => .long
  | 9 => .array .int
  | 10 => .int
  | 11 => .array .int
  | 12 => .int
  | 13 => .array .int
  | 14 => .array .int
  | 15 => .array .int
  | 16 => .array .int
  | 17 => .array .int
  | 18 => .int
  | _ => .array .int
abbrev wsX70 : List Cond := u_ws RX7 TX7 20
theorem nmX7 : ∀ a, a < 20 → ∀ b, b < 20 → a ≠ b → (TX7 a).2.1 ≠ (TX7 b).2.1 := by decide +kernel
theorem tyX7_ok : ∀ k, k < 20 → parseFieldDescriptor (TX7 k).2.2.1 = some (tyX7 k) := by decide +kernel
def RL : String := "KnotNamesLaw"
def RJ6 : String := "java/lang/Integer"
def RJ9 : String := "java/lang/Math"
def RJ0 : String := "java/lang/String"
def RJ1 : String := "java/lang/StringLatin1"
abbrev cX0_init : ByteArray := prog_2_method_1_code
def yX0_init : MethodName := ⟨"KnotNames$Camp", "<init>", "()V"⟩
abbrev cX0_has : ByteArray := prog_2_method_2_code
def yX0_has : MethodName := ⟨"KnotNames$Camp", "has", "(I)Z"⟩
abbrev cX0_nameOf : ByteArray := prog_2_method_3_code
def yX0_nameOf : MethodName := ⟨"KnotNames$Camp", "nameOf", "(I)LKnotNames$Row;"⟩
abbrev cX0_empty : ByteArray := prog_2_method_4_code
def yX0_empty : MethodName := ⟨"KnotNames$Camp", "empty", "()V"⟩
abbrev cX0_addHerder : ByteArray := prog_2_method_5_code
def yX0_addHerder : MethodName := ⟨"KnotNames$Camp", "addHerder", "()V"⟩
abbrev cX0_tieLastHerder : ByteArray := prog_2_method_6_code
def yX0_tieLastHerder : MethodName := ⟨"KnotNames$Camp", "tieLastHerder", "(I)V"⟩
abbrev cX0_become : ByteArray := prog_2_method_7_code
def yX0_become : MethodName := ⟨"KnotNames$Camp", "become", "(LKnotNames$Camp;)V"⟩
abbrev cX0_turns : ByteArray := prog_2_method_8_code
def yX0_turns : MethodName := ⟨"KnotNames$Camp", "turns", "()I"⟩
abbrev cX0_named : ByteArray := prog_2_method_9_code
def yX0_named : MethodName := ⟨"KnotNames$Camp", "named", "()I"⟩
abbrev cX0_calledLike : ByteArray := prog_2_method_10_code
def yX0_calledLike : MethodName := ⟨"KnotNames$Camp", "calledLike", "(I)I"⟩
abbrev cX0_unlikeNames : ByteArray := prog_2_method_11_code
def yX0_unlikeNames : MethodName := ⟨"KnotNames$Camp", "unlikeNames", "()I"⟩
abbrev cX1_init : ByteArray := prog_3_method_1_code
def yX1_init : MethodName := ⟨"KnotNames$Lives", "<init>", "()V"⟩
abbrev cX1_readBack : ByteArray := prog_3_method_2_code
def yX1_readBack : MethodName := ⟨"KnotNames$Lives", "readBack", "(LKnotNames$Camp;)V"⟩
abbrev cX1_seek : ByteArray := prog_3_method_3_code
def yX1_seek : MethodName := ⟨"KnotNames$Lives", "seek", "(LKnotNames$Lives;LKnotNames$Camp;II)V"⟩
abbrev cX1_note : ByteArray := prog_3_method_4_code
def yX1_note : MethodName := ⟨"KnotNames$Lives", "note", "(I)V"⟩
abbrev cX1_inMost : ByteArray := prog_3_method_5_code
def yX1_inMost : MethodName := ⟨"KnotNames$Lives", "inMost", "()I"⟩
abbrev cX2_init : ByteArray := prog_4_method_1_code
def yX2_init : MethodName := ⟨"KnotNames$NewNames", "<init>", "()V"⟩
abbrev cX2_find : ByteArray := prog_4_method_2_code
def yX2_find : MethodName := ⟨"KnotNames$NewNames", "find", "(LKnotNames$Camp;II)V"⟩
abbrev cX2_spell : ByteArray := prog_4_method_3_code
def yX2_spell : MethodName := ⟨"KnotNames$NewNames", "spell", "(II)V"⟩
abbrev cX2_isFar : ByteArray := prog_4_method_4_code
def yX2_isFar : MethodName := ⟨"KnotNames$NewNames", "isFar", "(LKnotNames$Camp;I)Z"⟩
abbrev cX3_init : ByteArray := prog_5_method_1_code
def yX3_init : MethodName := ⟨"KnotNames$Past", "<init>", "()V"⟩
abbrev cX3_remember : ByteArray := prog_5_method_2_code
def yX3_remember : MethodName := ⟨"KnotNames$Past", "remember", "(LKnotNames$Camp;)V"⟩
abbrev cX3_takeBack : ByteArray := prog_5_method_3_code
def yX3_takeBack : MethodName := ⟨"KnotNames$Past", "takeBack", "(LKnotNames$Camp;)V"⟩
abbrev cX3_forget : ByteArray := prog_5_method_4_code
def yX3_forget : MethodName := ⟨"KnotNames$Past", "forget", "()V"⟩
abbrev cX4_init : ByteArray := prog_6_method_1_code
def yX4_init : MethodName := ⟨"KnotNames$Row", "<init>", "(I)V"⟩
abbrev cX4_at : ByteArray := prog_6_method_2_code
def yX4_at : MethodName := ⟨"KnotNames$Row", "at", "(I)I"⟩
abbrev cX4_last : ByteArray := prog_6_method_3_code
def yX4_last : MethodName := ⟨"KnotNames$Row", "last", "()I"⟩
abbrev cX4_empty : ByteArray := prog_6_method_4_code
def yX4_empty : MethodName := ⟨"KnotNames$Row", "empty", "()I"⟩
abbrev cX4_append : ByteArray := prog_6_method_5_code
def yX4_append : MethodName := ⟨"KnotNames$Row", "append", "(I)V"⟩
abbrev cX4_dropLast : ByteArray := prog_6_method_6_code
def yX4_dropLast : MethodName := ⟨"KnotNames$Row", "dropLast", "()V"⟩
abbrev cX4_endsUndoing : ByteArray := prog_6_method_7_code
def yX4_endsUndoing : MethodName := ⟨"KnotNames$Row", "endsUndoing", "(I)Z"⟩
abbrev cX4_takesTight : ByteArray := prog_6_method_8_code
def yX4_takesTight : MethodName := ⟨"KnotNames$Row", "takesTight", "(I)Z"⟩
abbrev cX4_appendTight : ByteArray := prog_6_method_9_code
def yX4_appendTight : MethodName := ⟨"KnotNames$Row", "appendTight", "(I)V"⟩
abbrev cX4_appendAllTight : ByteArray := prog_6_method_10_code
def yX4_appendAllTight : MethodName := ⟨"KnotNames$Row", "appendAllTight", "(LKnotNames$Row;)V"⟩
abbrev cX4_appendAllUndoing : ByteArray := prog_6_method_11_code
def yX4_appendAllUndoing : MethodName := ⟨"KnotNames$Row", "appendAllUndoing", "(LKnotNames$Row;)V"⟩
abbrev cX4_become : ByteArray := prog_6_method_12_code
def yX4_become : MethodName := ⟨"KnotNames$Row", "become", "(LKnotNames$Row;)V"⟩
abbrev cX4_becomeTight : ByteArray := prog_6_method_13_code
def yX4_becomeTight : MethodName := ⟨"KnotNames$Row", "becomeTight", "(LKnotNames$Row;)V"⟩
abbrev cX4_becomeJoined : ByteArray := prog_6_method_14_code
def yX4_becomeJoined : MethodName := ⟨"KnotNames$Row", "becomeJoined", "(LKnotNames$Row;LKnotNames$Row;)V"⟩
abbrev cX4_isTight : ByteArray := prog_6_method_15_code
def yX4_isTight : MethodName := ⟨"KnotNames$Row", "isTight", "()Z"⟩
abbrev cX4_commonStart : ByteArray := prog_6_method_16_code
def yX4_commonStart : MethodName := ⟨"KnotNames$Row", "commonStart", "(LKnotNames$Row;)I"⟩
abbrev cX4_isLike : ByteArray := prog_6_method_17_code
def yX4_isLike : MethodName := ⟨"KnotNames$Row", "isLike", "(LKnotNames$Row;)Z"⟩
abbrev cX4_compareWith : ByteArray := prog_6_method_18_code
def yX4_compareWith : MethodName := ⟨"KnotNames$Row", "compareWith", "(LKnotNames$Row;)I"⟩
abbrev cX4_differences : ByteArray := prog_6_method_19_code
def yX4_differences : MethodName := ⟨"KnotNames$Row", "differences", "(LKnotNames$Row;)I"⟩
abbrev cX4_shortestRepeated : ByteArray := prog_6_method_20_code
def yX4_shortestRepeated : MethodName := ⟨"KnotNames$Row", "shortestRepeated", "()I"⟩
abbrev cX4_repeats : ByteArray := prog_6_method_21_code
def yX4_repeats : MethodName := ⟨"KnotNames$Row", "repeats", "(I)Z"⟩
abbrev cX4_lostByBending : ByteArray := prog_6_method_22_code
def yX4_lostByBending : MethodName := ⟨"KnotNames$Row", "lostByBending", "()I"⟩
abbrev cX4_isRingOf : ByteArray := prog_6_method_23_code
def yX4_isRingOf : MethodName := ⟨"KnotNames$Row", "isRingOf", "(LKnotNames$Row;)Z"⟩
abbrev cX4_isRingBegunAt : ByteArray := prog_6_method_24_code
def yX4_isRingBegunAt : MethodName := ⟨"KnotNames$Row", "isRingBegunAt", "(ILKnotNames$Row;III)Z"⟩
abbrev cX5_init : ByteArray := prog_7_method_1_code
def yX5_init : MethodName := ⟨"KnotNames$Text", "<init>", "()V"⟩
abbrev cX5_append : ByteArray := prog_7_method_2_code
def yX5_append : MethodName := ⟨"KnotNames$Text", "append", "(I)Z"⟩
abbrev cX5_empty : ByteArray := prog_7_method_3_code
def yX5_empty : MethodName := ⟨"KnotNames$Text", "empty", "()V"⟩
abbrev cX5_isTurnLetter : ByteArray := prog_7_method_4_code
def yX5_isTurnLetter : MethodName := ⟨"KnotNames$Text", "isTurnLetter", "(C)Z"⟩
abbrev cX5_fault : ByteArray := prog_7_method_5_code
def yX5_fault : MethodName := ⟨"KnotNames$Text", "fault", "()I"⟩
abbrev cX5_tell : ByteArray := prog_7_method_6_code
def yX5_tell : MethodName := ⟨"KnotNames$Text", "tell", "(LKnotNames$Camp;)V"⟩
abbrev cX6_init : ByteArray := prog_1_method_1_code
def yX6_init : MethodName := ⟨"KnotNames", "<init>", "()V"⟩
abbrev cX6_type : ByteArray := prog_1_method_2_code
def yX6_type : MethodName := ⟨"KnotNames", "type", "(I)I"⟩
abbrev cX6_clear : ByteArray := prog_1_method_3_code
def yX6_clear : MethodName := ⟨"KnotNames", "clear", "()I"⟩
abbrev cX6_camp : ByteArray := prog_1_method_4_code
def yX6_camp : MethodName := ⟨"KnotNames", "camp", "()I"⟩
abbrev cX6_name : ByteArray := prog_1_method_5_code
def yX6_name : MethodName := ⟨"KnotNames", "name", "(II)I"⟩
abbrev cX6_contract : ByteArray := prog_1_method_6_code
def yX6_contract : MethodName := ⟨"KnotNames", "contract", "(I)I"⟩
abbrev cX6_now : ByteArray := prog_1_method_7_code
def yX6_now : MethodName := ⟨"KnotNames", "now", "(I)I"⟩
abbrev cX6_ties : ByteArray := prog_1_method_8_code
def yX6_ties : MethodName := ⟨"KnotNames", "ties", "(II)I"⟩
abbrev cX6_loosens : ByteArray := prog_1_method_9_code
def yX6_loosens : MethodName := ⟨"KnotNames", "loosens", "(I)I"⟩
abbrev cX6_bends : ByteArray := prog_1_method_10_code
def yX6_bends : MethodName := ⟨"KnotNames", "bends", "(II)I"⟩
abbrev cX6_unties : ByteArray := prog_1_method_11_code
def yX6_unties : MethodName := ⟨"KnotNames", "unties", "(I)I"⟩
abbrev cX6_adds : ByteArray := prog_1_method_12_code
def yX6_adds : MethodName := ⟨"KnotNames", "adds", "(I)I"⟩
abbrev cX6_tears : ByteArray := prog_1_method_13_code
def yX6_tears : MethodName := ⟨"KnotNames", "tears", "()I"⟩
abbrev cX6_undo : ByteArray := prog_1_method_14_code
def yX6_undo : MethodName := ⟨"KnotNames", "undo", "()I"⟩
abbrev cX6_alike : ByteArray := prog_1_method_15_code
def yX6_alike : MethodName := ⟨"KnotNames", "alike", "(I)I"⟩
abbrev cX6_ring : ByteArray := prog_1_method_16_code
def yX6_ring : MethodName := ⟨"KnotNames", "ring", "(I)I"⟩
abbrev cX6_way : ByteArray := prog_1_method_17_code
def yX6_way : MethodName := ⟨"KnotNames", "way", "(II)I"⟩
abbrev cX6_root : ByteArray := prog_1_method_18_code
def yX6_root : MethodName := ⟨"KnotNames", "root", "(I)I"⟩
abbrev cX6_order : ByteArray := prog_1_method_19_code
def yX6_order : MethodName := ⟨"KnotNames", "order", "(I)I"⟩
abbrev cX6_cold : ByteArray := prog_1_method_20_code
def yX6_cold : MethodName := ⟨"KnotNames", "cold", "(IIII)J"⟩
abbrev cX6_mixed : ByteArray := prog_1_method_21_code
def yX6_mixed : MethodName := ⟨"KnotNames", "mixed", "(II)I"⟩
abbrev cX6_newName : ByteArray := prog_1_method_22_code
def yX6_newName : MethodName := ⟨"KnotNames", "newName", "(III)I"⟩
abbrev cX6_pulls : ByteArray := prog_1_method_23_code
def yX6_pulls : MethodName := ⟨"KnotNames", "pulls", "(I)I"⟩
abbrev cX6_lives : ByteArray := prog_1_method_24_code
def yX6_lives : MethodName := ⟨"KnotNames", "lives", "(I)I"⟩
abbrev cX6_next : ByteArray := prog_1_method_25_code
def yX6_next : MethodName := ⟨"KnotNames", "next", "()I"⟩
abbrev cX6_porridge : ByteArray := prog_1_method_26_code
def yX6_porridge : MethodName := ⟨"KnotNames", "porridge", "(IIII)I"⟩
abbrev cX6_share : ByteArray := prog_1_method_27_code
def yX6_share : MethodName := ⟨"KnotNames", "share", "(II)I"⟩
abbrev cX6_rate : ByteArray := prog_1_method_28_code
def yX6_rate : MethodName := ⟨"KnotNames", "rate", "(II)I"⟩
abbrev cX6_keep : ByteArray := prog_1_method_29_code
def yX6_keep : MethodName := ⟨"KnotNames", "keep", "(I)I"⟩
abbrev cX6_back : ByteArray := prog_1_method_30_code
def yX6_back : MethodName := ⟨"KnotNames", "back", "(I)I"⟩
abbrev cX6_count : ByteArray := prog_1_method_31_code
def yX6_count : MethodName := ⟨"KnotNames", "count", "(I)I"⟩
abbrev cX6_trace : ByteArray := prog_1_method_32_code
def yX6_trace : MethodName := ⟨"KnotNames", "trace", "()J"⟩
abbrev cX6_asHerder : ByteArray := prog_1_method_33_code
def yX6_asHerder : MethodName := ⟨"KnotNames", "asHerder", "(I)I"⟩
abbrev cX6_asChief : ByteArray := prog_1_method_34_code
def yX6_asChief : MethodName := ⟨"KnotNames", "asChief", "(I)I"⟩
abbrev cX6_asLiar : ByteArray := prog_1_method_35_code
def yX6_asLiar : MethodName := ⟨"KnotNames", "asLiar", "(I)I"⟩
abbrev cX6_asFist : ByteArray := prog_1_method_36_code
def yX6_asFist : MethodName := ⟨"KnotNames", "asFist", "(I)I"⟩
abbrev cX6_asThief : ByteArray := prog_1_method_37_code
def yX6_asThief : MethodName := ⟨"KnotNames", "asThief", "(I)I"⟩
abbrev cX6_asWidow : ByteArray := prog_1_method_38_code
def yX6_asWidow : MethodName := ⟨"KnotNames", "asWidow", "(I)I"⟩
abbrev cX6_isWithin : ByteArray := prog_1_method_39_code
def yX6_isWithin : MethodName := ⟨"KnotNames", "isWithin", "(III)Z"⟩
abbrev cX6_isTurn : ByteArray := prog_1_method_40_code
def yX6_isTurn : MethodName := ⟨"KnotNames", "isTurn", "(I)Z"⟩
abbrev cX6_undoing : ByteArray := prog_1_method_41_code
def yX6_undoing : MethodName := ⟨"KnotNames", "undoing", "(I)I"⟩
abbrev cX6_lengthOrTurn : ByteArray := prog_1_method_42_code
def yX6_lengthOrTurn : MethodName := ⟨"KnotNames", "lengthOrTurn", "(LKnotNames$Row;I)I"⟩
abbrev cX6_takenFor : ByteArray := prog_1_method_43_code
def yX6_takenFor : MethodName := ⟨"KnotNames", "takenFor", "(III)I"⟩
abbrev cX6_power : ByteArray := prog_1_method_44_code
def yX6_power : MethodName := ⟨"KnotNames", "power", "(II)J"⟩
abbrev cX6_leastTerms : ByteArray := prog_1_method_45_code
def yX6_leastTerms : MethodName := ⟨"KnotNames", "leastTerms", "(JJI)J"⟩
abbrev cX6_commonDivisor : ByteArray := prog_1_method_46_code
def yX6_commonDivisor : MethodName := ⟨"KnotNames", "commonDivisor", "(JJ)J"⟩
abbrev cX6_mostPairs : ByteArray := prog_1_method_47_code
def yX6_mostPairs : MethodName := ⟨"KnotNames", "mostPairs", "(LKnotNames$Row;)I"⟩
abbrev cX6_mostPairsWithin : ByteArray := prog_1_method_48_code
def yX6_mostPairsWithin : MethodName := ⟨"KnotNames", "mostPairsWithin", "(LKnotNames$Row;II)I"⟩
abbrev cX7_init : ByteArray := prog_9_method_1_code
def yX7_init : MethodName := ⟨"KnotNamesModel", "<init>", "()V"⟩
abbrev cX7_in : ByteArray := prog_9_method_3_code
def yX7_in : MethodName := ⟨"KnotNamesModel", "in", "(JJJ)Z"⟩
abbrev cX7_isTwo : ByteArray := prog_9_method_4_code
def yX7_isTwo : MethodName := ⟨"KnotNamesModel", "isTwo", "(I)Z"⟩
abbrev cX7_isTurn : ByteArray := prog_9_method_5_code
def yX7_isTurn : MethodName := ⟨"KnotNamesModel", "isTurn", "(I)Z"⟩
abbrev cX7_bits : ByteArray := prog_9_method_6_code
def yX7_bits : MethodName := ⟨"KnotNamesModel", "bits", "(I)I"⟩
abbrev cX7_tie : ByteArray := prog_9_method_7_code
def yX7_tie : MethodName := ⟨"KnotNamesModel", "tie", "(I)V"⟩
abbrev cX7_tieRow : ByteArray := prog_9_method_8_code
def yX7_tieRow : MethodName := ⟨"KnotNamesModel", "tieRow", "(II)V"⟩
abbrev cX7_tieName : ByteArray := prog_9_method_9_code
def yX7_tieName : MethodName := ⟨"KnotNamesModel", "tieName", "(I)V"⟩
abbrev cX7_type : ByteArray := prog_9_method_10_code
def yX7_type : MethodName := ⟨"KnotNamesModel", "type", "(I)I"⟩
abbrev cX7_clear : ByteArray := prog_9_method_11_code
def yX7_clear : MethodName := ⟨"KnotNamesModel", "clear", "()I"⟩
abbrev cX7_turnOf : ByteArray := prog_9_method_12_code
def yX7_turnOf : MethodName := ⟨"KnotNamesModel", "turnOf", "(I)I"⟩
abbrev cX7_ahead : ByteArray := prog_9_method_13_code
def yX7_ahead : MethodName := ⟨"KnotNamesModel", "ahead", "()I"⟩
abbrev cX7_takesHerder : ByteArray := prog_9_method_14_code
def yX7_takesHerder : MethodName := ⟨"KnotNamesModel", "takesHerder", "(I)Z"⟩
abbrev cX7_camp : ByteArray := prog_9_method_15_code
def yX7_camp : MethodName := ⟨"KnotNamesModel", "camp", "()I"⟩
abbrev cX7_copies : ByteArray := prog_9_method_16_code
def yX7_copies : MethodName := ⟨"KnotNamesModel", "copies", "([II[II)V"⟩
abbrev cX7_isHerder : ByteArray := prog_9_method_17_code
def yX7_isHerder : MethodName := ⟨"KnotNamesModel", "isHerder", "(I)Z"⟩
abbrev cX7_name : ByteArray := prog_9_method_18_code
def yX7_name : MethodName := ⟨"KnotNamesModel", "name", "(II)I"⟩
abbrev cX7_contract : ByteArray := prog_9_method_19_code
def yX7_contract : MethodName := ⟨"KnotNamesModel", "contract", "(I)I"⟩
abbrev cX7_turnsOfAll : ByteArray := prog_9_method_20_code
def yX7_turnsOfAll : MethodName := ⟨"KnotNamesModel", "turnsOfAll", "()I"⟩
abbrev cX7_namesThere : ByteArray := prog_9_method_21_code
def yX7_namesThere : MethodName := ⟨"KnotNamesModel", "namesThere", "()I"⟩
abbrev cX7_now : ByteArray := prog_9_method_22_code
def yX7_now : MethodName := ⟨"KnotNamesModel", "now", "(I)I"⟩
abbrev cX7_remember : ByteArray := prog_9_method_23_code
def yX7_remember : MethodName := ⟨"KnotNamesModel", "remember", "()V"⟩
abbrev cX7_names : ByteArray := prog_9_method_24_code
def yX7_names : MethodName := ⟨"KnotNamesModel", "names", "(I)V"⟩
abbrev cX7_ties : ByteArray := prog_9_method_25_code
def yX7_ties : MethodName := ⟨"KnotNamesModel", "ties", "(II)I"⟩
abbrev cX7_loosens : ByteArray := prog_9_method_26_code
def yX7_loosens : MethodName := ⟨"KnotNamesModel", "loosens", "(I)I"⟩
abbrev cX7_bends : ByteArray := prog_9_method_27_code
def yX7_bends : MethodName := ⟨"KnotNamesModel", "bends", "(II)I"⟩
abbrev cX7_unties : ByteArray := prog_9_method_28_code
def yX7_unties : MethodName := ⟨"KnotNamesModel", "unties", "(I)I"⟩
abbrev cX7_adds : ByteArray := prog_9_method_29_code
def yX7_adds : MethodName := ⟨"KnotNamesModel", "adds", "(I)I"⟩
abbrev cX7_tears : ByteArray := prog_9_method_30_code
def yX7_tears : MethodName := ⟨"KnotNamesModel", "tears", "()I"⟩
abbrev cX7_undo : ByteArray := prog_9_method_31_code
def yX7_undo : MethodName := ⟨"KnotNamesModel", "undo", "()I"⟩
abbrev cX7_turnAt : ByteArray := prog_9_method_32_code
def yX7_turnAt : MethodName := ⟨"KnotNamesModel", "turnAt", "(II)I"⟩
abbrev cX7_unlike : ByteArray := prog_9_method_33_code
def yX7_unlike : MethodName := ⟨"KnotNamesModel", "unlike", "(II)I"⟩
abbrev cX7_nearTo : ByteArray := prog_9_method_34_code
def yX7_nearTo : MethodName := ⟨"KnotNamesModel", "nearTo", "(II)I"⟩
abbrev cX7_alikeOf : ByteArray := prog_9_method_35_code
def yX7_alikeOf : MethodName := ⟨"KnotNamesModel", "alikeOf", "(I)I"⟩
abbrev cX7_alike : ByteArray := prog_9_method_36_code
def yX7_alike : MethodName := ⟨"KnotNamesModel", "alike", "(I)I"⟩
abbrev cX7_ends : ByteArray := prog_9_method_37_code
def yX7_ends : MethodName := ⟨"KnotNamesModel", "ends", "(I)I"⟩
abbrev cX7_isRing : ByteArray := prog_9_method_38_code
def yX7_isRing : MethodName := ⟨"KnotNamesModel", "isRing", "(II)Z"⟩
abbrev cX7_ring : ByteArray := prog_9_method_39_code
def yX7_ring : MethodName := ⟨"KnotNamesModel", "ring", "(I)I"⟩
abbrev cX7_way : ByteArray := prog_9_method_40_code
def yX7_way : MethodName := ⟨"KnotNamesModel", "way", "(II)I"⟩
abbrev cX7_rootOf : ByteArray := prog_9_method_41_code
def yX7_rootOf : MethodName := ⟨"KnotNamesModel", "rootOf", "(I)I"⟩
abbrev cX7_root : ByteArray := prog_9_method_42_code
def yX7_root : MethodName := ⟨"KnotNamesModel", "root", "(I)I"⟩
abbrev cX7_isAhead : ByteArray := prog_9_method_43_code
def yX7_isAhead : MethodName := ⟨"KnotNamesModel", "isAhead", "(II)Z"⟩
abbrev cX7_order : ByteArray := prog_9_method_44_code
def yX7_order : MethodName := ⟨"KnotNamesModel", "order", "(I)I"⟩
abbrev cX7_least : ByteArray := prog_9_method_45_code
def yX7_least : MethodName := ⟨"KnotNamesModel", "least", "(JJI)J"⟩
abbrev cX7_cold : ByteArray := prog_9_method_46_code
def yX7_cold : MethodName := ⟨"KnotNamesModel", "cold", "(IIII)J"⟩
abbrev cX7_mixed : ByteArray := prog_9_method_47_code
def yX7_mixed : MethodName := ⟨"KnotNamesModel", "mixed", "(II)I"⟩
abbrev cX7_isNew : ByteArray := prog_9_method_48_code
def yX7_isNew : MethodName := ⟨"KnotNamesModel", "isNew", "(III)Z"⟩
abbrev cX7_newName : ByteArray := prog_9_method_49_code
def yX7_newName : MethodName := ⟨"KnotNamesModel", "newName", "(III)I"⟩
abbrev cX7_mend : ByteArray := prog_9_method_50_code
def yX7_mend : MethodName := ⟨"KnotNamesModel", "mend", "()I"⟩
abbrev cX7_tieContract : ByteArray := prog_9_method_51_code
def yX7_tieContract : MethodName := ⟨"KnotNamesModel", "tieContract", "()V"⟩
abbrev cX7_pulls : ByteArray := prog_9_method_52_code
def yX7_pulls : MethodName := ⟨"KnotNamesModel", "pulls", "(I)I"⟩
abbrev cX7_isLife : ByteArray := prog_9_method_53_code
def yX7_isLife : MethodName := ⟨"KnotNamesModel", "isLife", "(II)Z"⟩
abbrev cX7_layContract : ByteArray := prog_9_method_54_code
def yX7_layContract : MethodName := ⟨"KnotNamesModel", "layContract", "()V"⟩
abbrev cX7_lives : ByteArray := prog_9_method_55_code
def yX7_lives : MethodName := ⟨"KnotNamesModel", "lives", "(I)I"⟩
abbrev cX7_next : ByteArray := prog_9_method_56_code
def yX7_next : MethodName := ⟨"KnotNamesModel", "next", "()I"⟩
abbrev cX7_porridge : ByteArray := prog_9_method_57_code
def yX7_porridge : MethodName := ⟨"KnotNamesModel", "porridge", "(IIII)I"⟩
abbrev cX7_share : ByteArray := prog_9_method_58_code
def yX7_share : MethodName := ⟨"KnotNamesModel", "share", "(II)I"⟩
abbrev cX7_rate : ByteArray := prog_9_method_59_code
def yX7_rate : MethodName := ⟨"KnotNamesModel", "rate", "(II)I"⟩
abbrev cX7_keep : ByteArray := prog_9_method_60_code
def yX7_keep : MethodName := ⟨"KnotNamesModel", "keep", "(I)I"⟩
abbrev cX7_back : ByteArray := prog_9_method_61_code
def yX7_back : MethodName := ⟨"KnotNamesModel", "back", "(I)I"⟩
abbrev cX7_count : ByteArray := prog_9_method_62_code
def yX7_count : MethodName := ⟨"KnotNamesModel", "count", "(I)I"⟩
abbrev cX7_trace : ByteArray := prog_9_method_63_code
def yX7_trace : MethodName := ⟨"KnotNamesModel", "trace", "()J"⟩
abbrev cJ6_compare_7cf53 : ByteArray := prog_11_method_40_code
def yJ6_compare_7cf53 : MethodName := ⟨"java/lang/Integer", "compare", "(II)I"⟩
abbrev cJ6_bitCount_0f7a4 : ByteArray := prog_11_method_49_code
def yJ6_bitCount_0f7a4 : MethodName := ⟨"java/lang/Integer", "bitCount", "(I)I"⟩
abbrev cJ0_length_8abf5 : ByteArray := prog_13_method_54_code
def yJ0_length_8abf5 : MethodName := ⟨"java/lang/String", "length", "()I"⟩
abbrev cJ0_indexOf_0f7a4 : ByteArray := prog_13_method_79_code
def yJ0_indexOf_0f7a4 : MethodName := ⟨"java/lang/String", "indexOf", "(I)I"⟩
abbrev cJ0_indexOf_7cf53 : ByteArray := prog_13_method_80_code
def yJ0_indexOf_7cf53 : MethodName := ⟨"java/lang/String", "indexOf", "(II)I"⟩
abbrev cJ0_coder_7d493 : ByteArray := prog_13_method_152_code
def yJ0_coder_7d493 : MethodName := ⟨"java/lang/String", "coder", "()B"⟩
abbrev cJ0_isLatin1_aae02 : ByteArray := prog_13_method_154_code
def yJ0_isLatin1_aae02 : MethodName := ⟨"java/lang/String", "isLatin1", "()Z"⟩
abbrev cJ1_canEncode_9a6ad : ByteArray := prog_14_method_4_code
def yJ1_canEncode_9a6ad : MethodName := ⟨"java/lang/StringLatin1", "canEncode", "(I)Z"⟩
abbrev cJ1_indexOf_4cfef : ByteArray := prog_14_method_22_code
def yJ1_indexOf_4cfef : MethodName := ⟨"java/lang/StringLatin1", "indexOf", "([BIII)I"⟩
abbrev cJ1_indexOfChar_4cfef : ByteArray := prog_14_method_23_code
def yJ1_indexOfChar_4cfef : MethodName := ⟨"java/lang/StringLatin1", "indexOfChar", "([BIII)I"⟩
abbrev cL_law : ByteArray := code
def yL_law : MethodName := ⟨"KnotNamesLaw", "law", "([I)Z"⟩
abbrev vwCl : List vw_C := [(RX0, TX0, 3), (RX1, TX1, 7), (RX2, TX2, 3), (RX3, TX3, 3), (RX4, TX4, 2), (RX5, TX5, 2), (RX6, TX6, 12), (RX7, TX7, 20)]
end
section
def k_Camp_init : List (Nat × Instr × Nat) := [(0, .aload_n 0, 1), (1, .invokespecial 3, 3), (4, .aload_n 0, 1), (5, .bipush 6, 2), (7, .anewarray 9, 3), (10, .putfield 11, 3), (13, .aload_n 0, 1), (14, .new 9, 3), (17, .dup, 1), (18, .bipush 12, 2), (20, .invokespecial 17, 3), (23, .putfield 20, 3), (26, .aload_n 0, 1), (27, .iconst 0, 1), (28, .putfield 24, 3), (31, .iconst 0, 1), (32, .istore_n 1, 1), (33, .iload_n 1, 1), (34, .bipush 6, 2), (36, .if_icmp .ge 24, 3), (39, .aload_n 0, 1), (40, .getfield 11, 3), (43, .iload_n 1, 1), (44, .new 9, 3), (47, .dup, 1), (48, .bipush 12, 2), (50, .invokespecial 17, 3), (53, .aastore, 1), (54, .iinc 1 1, 3), (57, .goto (-24), 3), (60, .return_, 1)]
set_option maxRecDepth 100000 in
theorem kc_Camp_init : ∀ q ∈ k_Camp_init, decode cX0_init q.1 = .ok (q.2.1, q.2.2) := by decide +kernel
def k_Camp_has : List (Nat × Instr × Nat) := [(0, .iload_n 1, 1), (1, .iconst 0, 1), (2, .aload_n 0, 1), (3, .getfield 24, 3), (6, .iconst 1, 1), (7, .isub, 1), (8, .invokestatic 28, 3), (11, .ireturn, 1)]
set_option maxRecDepth 100000 in
theorem kc_Camp_has : ∀ q ∈ k_Camp_has, decode cX0_has q.1 = .ok (q.2.1, q.2.2) := by decide +kernel
def k_Camp_nameOf : List (Nat × Instr × Nat) := [(0, .aload_n 0, 1), (1, .getfield 11, 3), (4, .iload_n 1, 1), (5, .aaload, 1), (6, .areturn, 1)]
set_option maxRecDepth 100000 in
theorem kc_Camp_nameOf : ∀ q ∈ k_Camp_nameOf, decode cX0_nameOf q.1 = .ok (q.2.1, q.2.2) := by decide +kernel
def k_Camp_empty : List (Nat × Instr × Nat) := [(0, .aload_n 0, 1), (1, .iconst 0, 1), (2, .putfield 24, 3), (5, .aload_n 0, 1), (6, .getfield 20, 3), (9, .invokevirtual 32, 3), (12, .pop, 1), (13, .return_, 1)]
set_option maxRecDepth 100000 in
theorem kc_Camp_empty : ∀ q ∈ k_Camp_empty, decode cX0_empty q.1 = .ok (q.2.1, q.2.2) := by decide +kernel
def k_Camp_addHerder : List (Nat × Instr × Nat) := [(0, .aload_n 0, 1), (1, .getfield 24, 3), (4, .bipush 6, 2), (6, .if_icmp .ge 26, 3), (9, .aload_n 0, 1), (10, .getfield 11, 3), (13, .aload_n 0, 1), (14, .getfield 24, 3), (17, .aaload, 1), (18, .invokevirtual 32, 3), (21, .pop, 1), (22, .aload_n 0, 1), (23, .dup, 1), (24, .getfield 24, 3), (27, .iconst 1, 1), (28, .iadd, 1), (29, .putfield 24, 3), (32, .return_, 1)]
set_option maxRecDepth 100000 in
theorem kc_Camp_addHerder : ∀ q ∈ k_Camp_addHerder, decode cX0_addHerder q.1 = .ok (q.2.1, q.2.2) := by decide +kernel
def k_Camp_tieLastHerder : List (Nat × Instr × Nat) := [(0, .aload_n 0, 1), (1, .getfield 24, 3), (4, .ifCond .le 18, 3), (7, .aload_n 0, 1), (8, .getfield 11, 3), (11, .aload_n 0, 1), (12, .getfield 24, 3), (15, .iconst 1, 1), (16, .isub, 1), (17, .aaload, 1), (18, .iload_n 1, 1), (19, .invokevirtual 36, 3), (22, .return_, 1)]
set_option maxRecDepth 100000 in
theorem kc_Camp_tieLastHerder : ∀ q ∈ k_Camp_tieLastHerder, decode cX0_tieLastHerder q.1 = .ok (q.2.1, q.2.2) := by decide +kernel
def k_Camp_become : List (Nat × Instr × Nat) := [(0, .aload_n 0, 1), (1, .aload_n 1, 1), (2, .getfield 24, 3), (5, .putfield 24, 3), (8, .iconst 0, 1), (9, .istore_n 2, 1), (10, .iload_n 2, 1), (11, .aload_n 0, 1), (12, .getfield 24, 3), (15, .if_icmp .ge 24, 3), (18, .aload_n 0, 1), (19, .getfield 11, 3), (22, .iload_n 2, 1), (23, .aaload, 1), (24, .aload_n 1, 1), (25, .getfield 11, 3), (28, .iload_n 2, 1), (29, .aaload, 1), (30, .invokevirtual 39, 3), (33, .iinc 2 1, 3), (36, .goto (-26), 3), (39, .aload_n 0, 1), (40, .getfield 20, 3), (43, .aload_n 1, 1), (44, .getfield 20, 3), (47, .invokevirtual 39, 3), (50, .return_, 1)]
set_option maxRecDepth 100000 in
theorem kc_Camp_become : ∀ q ∈ k_Camp_become, decode cX0_become q.1 = .ok (q.2.1, q.2.2) := by decide +kernel
def k_Camp_turns : List (Nat × Instr × Nat) := [(0, .iconst 0, 1), (1, .istore_n 1, 1), (2, .iconst 0, 1), (3, .istore_n 2, 1), (4, .iload_n 2, 1), (5, .aload_n 0, 1), (6, .getfield 24, 3), (9, .if_icmp .ge 21, 3), (12, .iload_n 1, 1), (13, .aload_n 0, 1), (14, .getfield 11, 3), (17, .iload_n 2, 1), (18, .aaload, 1), (19, .getfield 43, 3), (22, .iadd, 1), (23, .istore_n 1, 1), (24, .iinc 2 1, 3), (27, .goto (-23), 3), (30, .iload_n 1, 1), (31, .ireturn, 1)]
set_option maxRecDepth 100000 in
theorem kc_Camp_turns : ∀ q ∈ k_Camp_turns, decode cX0_turns q.1 = .ok (q.2.1, q.2.2) := by decide +kernel
def k_Camp_named : List (Nat × Instr × Nat) := [(0, .iconst 0, 1), (1, .istore_n 1, 1), (2, .iconst 0, 1), (3, .istore_n 2, 1), (4, .iload_n 2, 1), (5, .aload_n 0, 1), (6, .getfield 24, 3), (9, .if_icmp .ge 27, 3), (12, .aload_n 0, 1), (13, .getfield 11, 3), (16, .iload_n 2, 1), (17, .aaload, 1), (18, .getfield 43, 3), (21, .ifCond .le 9, 3), (24, .iload_n 1, 1), (25, .iconst 1, 1), (26, .iload_n 2, 1), (27, .ishl, 1), (28, .ior, 1), (29, .istore_n 1, 1), (30, .iinc 2 1, 3), (33, .goto (-29), 3), (36, .iload_n 1, 1), (37, .ireturn, 1)]
set_option maxRecDepth 100000 in
theorem kc_Camp_named : ∀ q ∈ k_Camp_named, decode cX0_named q.1 = .ok (q.2.1, q.2.2) := by decide +kernel
def k_Camp_calledLike : List (Nat × Instr × Nat) := [(0, .iconst 0, 1), (1, .istore_n 2, 1), (2, .iconst 0, 1), (3, .istore_n 3, 1), (4, .iload_n 3, 1), (5, .aload_n 0, 1), (6, .getfield 24, 3), (9, .if_icmp .ge 33, 3), (12, .aload_n 0, 1), (13, .getfield 11, 3), (16, .iload_n 3, 1), (17, .aaload, 1), (18, .aload_n 0, 1), (19, .getfield 11, 3), (22, .iload_n 1, 1), (23, .aaload, 1), (24, .invokevirtual 46, 3), (27, .ifCond .eq 9, 3), (30, .iload_n 2, 1), (31, .iconst 1, 1), (32, .iload_n 3, 1), (33, .ishl, 1), (34, .ior, 1), (35, .istore_n 2, 1), (36, .iinc 3 1, 3), (39, .goto (-35), 3), (42, .iload_n 2, 1), (43, .ireturn, 1)]
set_option maxRecDepth 100000 in
theorem kc_Camp_calledLike : ∀ q ∈ k_Camp_calledLike, decode cX0_calledLike q.1 = .ok (q.2.1, q.2.2) := by decide +kernel
def k_Camp_unlikeNames : List (Nat × Instr × Nat) := [(0, .iconst 0, 1), (1, .istore_n 1, 1), (2, .iconst 0, 1), (3, .istore_n 2, 1), (4, .iload_n 2, 1), (5, .aload_n 0, 1), (6, .getfield 24, 3), (9, .if_icmp .ge 28, 3), (12, .iconst 1, 1), (13, .iload_n 2, 1), (14, .ishl, 1), (15, .iconst 1, 1), (16, .isub, 1), (17, .istore_n 3, 1), (18, .aload_n 0, 1), (19, .iload_n 2, 1), (20, .invokevirtual 50, 3), (23, .iload_n 3, 1), (24, .iand, 1), (25, .ifCond .ne 6, 3), (28, .iinc 1 1, 3), (31, .iinc 2 1, 3), (34, .goto (-30), 3), (37, .iload_n 1, 1), (38, .ireturn, 1)]
set_option maxRecDepth 100000 in
theorem kc_Camp_unlikeNames : ∀ q ∈ k_Camp_unlikeNames, decode cX0_unlikeNames q.1 = .ok (q.2.1, q.2.2) := by decide +kernel
def k_Lives_init : List (Nat × Instr × Nat) := [(0, .aload_n 0, 1), (1, .invokespecial 3, 3), (4, .aload_n 0, 1), (5, .new 9, 3), (8, .dup, 1), (9, .bipush 12, 2), (11, .invokespecial 11, 3), (14, .putfield 14, 3), (17, .aload_n 0, 1), (18, .new 9, 3), (21, .dup, 1), (22, .bipush 72, 2), (24, .invokespecial 11, 3), (27, .putfield 20, 3), (30, .aload_n 0, 1), (31, .bipush 6, 2), (33, .newarray .int, 2), (35, .putfield 23, 3), (38, .aload_n 0, 1), (39, .bipush 6, 2), (41, .newarray .int, 2), (43, .putfield 27, 3), (46, .aload_n 0, 1), (47, .bipush 6, 2), (49, .newarray .int, 2), (51, .putfield 30, 3), (54, .aload_n 0, 1), (55, .iconst 0, 1), (56, .putfield 33, 3), (59, .aload_n 0, 1), (60, .iconst 0, 1), (61, .putfield 37, 3), (64, .return_, 1)]
set_option maxRecDepth 100000 in
theorem kc_Lives_init : ∀ q ∈ k_Lives_init, decode cX1_init q.1 = .ok (q.2.1, q.2.2) := by decide +kernel
def k_Lives_readBack : List (Nat × Instr × Nat) := [(0, .aload_n 0, 1), (1, .getfield 14, 3), (4, .aload_n 1, 1), (5, .getfield 40, 3), (8, .invokevirtual 45, 3), (11, .aload_n 0, 1), (12, .getfield 20, 3), (15, .invokevirtual 49, 3), (18, .pop, 1), (19, .aload_n 0, 1), (20, .iconst 0, 1), (21, .putfield 37, 3), (24, .aload_n 0, 1), (25, .iconst 0, 1), (26, .putfield 33, 3), (29, .iconst 0, 1), (30, .istore_n 2, 1), (31, .iload_n 2, 1), (32, .bipush 6, 2), (34, .if_icmp .ge 16, 3), (37, .aload_n 0, 1), (38, .getfield 30, 3), (41, .iload_n 2, 1), (42, .iconst 0, 1), (43, .iastore, 1), (44, .iinc 2 1, 3), (47, .goto (-16), 3), (50, .aload_n 0, 1), (51, .aload_n 1, 1), (52, .iconst 0, 1), (53, .iconst 0, 1), (54, .invokestatic 53, 3), (57, .return_, 1)]
set_option maxRecDepth 100000 in
theorem kc_Lives_readBack : ∀ q ∈ k_Lives_readBack, decode cX1_readBack q.1 = .ok (q.2.1, q.2.2) := by decide +kernel
def k_Lives_seek : List (Nat × Instr × Nat) := [(0, .iload_n 2, 1), (1, .bipush 6, 2), (3, .if_icmp .lt 4, 3), (6, .return_, 1), (7, .iconst 0, 1), (8, .istore 4, 2), (10, .iload 4, 2), (12, .aload_n 1, 1), (13, .getfield 57, 3), (16, .if_icmp .ge 89, 3), (19, .iconst 1, 1), (20, .iload 4, 2), (22, .ishl, 1), (23, .istore 5, 2), (25, .iload_n 3, 1), (26, .iload 5, 2), (28, .iand, 1), (29, .ifCond .ne 70, 3), (32, .aload_n 0, 1), (33, .getfield 23, 3), (36, .iload_n 2, 1), (37, .iload 4, 2), (39, .iastore, 1), (40, .aload_n 0, 1), (41, .getfield 20, 3), (44, .aload_n 1, 1), (45, .iload 4, 2), (47, .invokevirtual 60, 3), (50, .invokevirtual 64, 3), (53, .aload_n 0, 1), (54, .getfield 20, 3), (57, .aload_n 0, 1), (58, .getfield 14, 3), (61, .invokevirtual 67, 3), (64, .ifCond .eq 10, 3), (67, .aload_n 0, 1), (68, .iload_n 2, 1), (69, .iconst 1, 1), (70, .iadd, 1), (71, .invokevirtual 71, 3), (74, .aload_n 0, 1), (75, .aload_n 1, 1), (76, .iload_n 2, 1), (77, .iconst 1, 1), (78, .iadd, 1), (79, .iload_n 3, 1), (80, .iload 5, 2), (82, .ior, 1), (83, .invokestatic 53, 3), (86, .aload_n 0, 1), (87, .getfield 20, 3), (90, .aload_n 1, 1), (91, .iload 4, 2), (93, .invokevirtual 60, 3), (96, .invokevirtual 74, 3), (99, .iinc 4 1, 3), (102, .goto (-92), 3), (105, .return_, 1)]
set_option maxRecDepth 100000 in
theorem kc_Lives_seek : ∀ q ∈ k_Lives_seek, decode cX1_seek q.1 = .ok (q.2.1, q.2.2) := by decide +kernel
def k_Lives_note : List (Nat × Instr × Nat) := [(0, .aload_n 0, 1), (1, .getfield 37, 3), (4, .ifCond .eq 11, 3), (7, .iload_n 1, 1), (8, .aload_n 0, 1), (9, .getfield 33, 3), (12, .if_icmp .ge 7, 3), (15, .iconst 1, 1), (16, .goto 4, 3), (19, .iconst 0, 1), (20, .istore_n 2, 1), (21, .iload_n 2, 1), (22, .ifCond .eq 8, 3), (25, .aload_n 0, 1), (26, .iload_n 1, 1), (27, .putfield 33, 3), (30, .iconst 0, 1), (31, .istore_n 3, 1), (32, .iload_n 3, 1), (33, .iload_n 1, 1), (34, .if_icmp .ge 40, 3), (37, .aload_n 0, 1), (38, .getfield 30, 3), (41, .aload_n 0, 1), (42, .getfield 23, 3), (45, .iload_n 3, 1), (46, .iaload, 1), (47, .dup2, 1), (48, .iaload, 1), (49, .iconst 1, 1), (50, .iadd, 1), (51, .iastore, 1), (52, .iload_n 2, 1), (53, .ifCond .eq 15, 3), (56, .aload_n 0, 1), (57, .getfield 27, 3), (60, .iload_n 3, 1), (61, .aload_n 0, 1), (62, .getfield 23, 3), (65, .iload_n 3, 1), (66, .iaload, 1), (67, .iastore, 1), (68, .iinc 3 1, 3), (71, .goto (-39), 3), (74, .aload_n 0, 1), (75, .dup, 1), (76, .getfield 37, 3), (79, .iconst 1, 1), (80, .iadd, 1), (81, .putfield 37, 3), (84, .return_, 1)]
set_option maxRecDepth 100000 in
theorem kc_Lives_note : ∀ q ∈ k_Lives_note, decode cX1_note q.1 = .ok (q.2.1, q.2.2) := by decide +kernel
def k_Lives_inMost : List (Nat × Instr × Nat) := [(0, .iconst 0, 1), (1, .istore_n 1, 1), (2, .iconst 1, 1), (3, .istore_n 2, 1), (4, .iload_n 2, 1), (5, .bipush 6, 2), (7, .if_icmp .ge 26, 3), (10, .aload_n 0, 1), (11, .getfield 30, 3), (14, .iload_n 2, 1), (15, .iaload, 1), (16, .aload_n 0, 1), (17, .getfield 30, 3), (20, .iload_n 1, 1), (21, .iaload, 1), (22, .if_icmp .le 5, 3), (25, .iload_n 2, 1), (26, .istore_n 1, 1), (27, .iinc 2 1, 3), (30, .goto (-26), 3), (33, .iload_n 1, 1), (34, .ireturn, 1)]
set_option maxRecDepth 100000 in
theorem kc_Lives_inMost : ∀ q ∈ k_Lives_inMost, decode cX1_inMost q.1 = .ok (q.2.1, q.2.2) := by decide +kernel
def k_NewN_init : List (Nat × Instr × Nat) := [(0, .aload_n 0, 1), (1, .invokespecial 3, 3), (4, .aload_n 0, 1), (5, .new 9, 3), (8, .dup, 1), (9, .iconst 4, 1), (10, .invokespecial 11, 3), (13, .putfield 14, 3), (16, .aload_n 0, 1), (17, .new 9, 3), (20, .dup, 1), (21, .iconst 4, 1), (22, .invokespecial 11, 3), (25, .putfield 20, 3), (28, .aload_n 0, 1), (29, .iconst 0, 1), (30, .putfield 23, 3), (33, .return_, 1)]
set_option maxRecDepth 100000 in
theorem kc_NewN_init : ∀ q ∈ k_NewN_init, decode cX2_init q.1 = .ok (q.2.1, q.2.2) := by decide +kernel
def k_NewN_find : List (Nat × Instr × Nat) := [(0, .aload_n 0, 1), (1, .iconst 0, 1), (2, .putfield 23, 3), (5, .bipush 6, 2), (7, .iload_n 2, 1), (8, .invokestatic 27, 3), (11, .l2i, 1), (12, .istore 4, 2), (14, .iconst 0, 1), (15, .istore 5, 2), (17, .iload 5, 2), (19, .iload 4, 2), (21, .if_icmp .ge 63, 3), (24, .aload_n 0, 1), (25, .iload 5, 2), (27, .iload_n 2, 1), (28, .invokevirtual 31, 3), (31, .aload_n 0, 1), (32, .getfield 20, 3), (35, .invokevirtual 35, 3), (38, .ifCond .eq 40, 3), (41, .aload_n 0, 1), (42, .aload_n 1, 1), (43, .iload_n 3, 1), (44, .invokevirtual 39, 3), (47, .ifCond .eq 31, 3), (50, .aload_n 0, 1), (51, .getfield 23, 3), (54, .ifCond .ne 14, 3), (57, .aload_n 0, 1), (58, .getfield 14, 3), (61, .aload_n 0, 1), (62, .getfield 20, 3), (65, .invokevirtual 43, 3), (68, .aload_n 0, 1), (69, .dup, 1), (70, .getfield 23, 3), (73, .iconst 1, 1), (74, .iadd, 1), (75, .putfield 23, 3), (78, .iinc 5 1, 3), (81, .goto (-64), 3), (84, .return_, 1)]
set_option maxRecDepth 100000 in
theorem kc_NewN_find : ∀ q ∈ k_NewN_find, decode cX2_find q.1 = .ok (q.2.1, q.2.2) := by decide +kernel
def k_NewN_spell : List (Nat × Instr × Nat) := [(0, .aload_n 0, 1), (1, .getfield 20, 3), (4, .invokevirtual 47, 3), (7, .pop, 1), (8, .iload_n 2, 1), (9, .iconst 1, 1), (10, .isub, 1), (11, .istore_n 3, 1), (12, .iload_n 3, 1), (13, .ifCond .lt 36, 3), (16, .iconst 1, 1), (17, .bipush 6, 2), (19, .iload_n 3, 1), (20, .invokestatic 27, 3), (23, .l2i, 1), (24, .invokestatic 51, 3), (27, .istore 4, 2), (29, .aload_n 0, 1), (30, .getfield 20, 3), (33, .iload_n 1, 1), (34, .iload 4, 2), (36, .idiv, 1), (37, .bipush 6, 2), (39, .irem, 1), (40, .invokevirtual 57, 3), (43, .iinc 3 (-1), 3), (46, .goto (-34), 3), (49, .return_, 1)]
set_option maxRecDepth 100000 in
theorem kc_NewN_spell : ∀ q ∈ k_NewN_spell, decode cX2_spell q.1 = .ok (q.2.1, q.2.2) := by decide +kernel
def k_NewN_isFar : List (Nat × Instr × Nat) := [(0, .iconst 0, 1), (1, .istore_n 3, 1), (2, .iload_n 3, 1), (3, .aload_n 1, 1), (4, .getfield 60, 3), (7, .if_icmp .ge 46, 3), (10, .aload_n 1, 1), (11, .iload_n 3, 1), (12, .invokevirtual 65, 3), (15, .astore 4, 2), (17, .aload 4, 2), (19, .getfield 69, 3), (22, .aload_n 0, 1), (23, .getfield 20, 3), (26, .getfield 69, 3), (29, .if_icmp .ne 18, 3), (32, .aload 4, 2), (34, .aload_n 0, 1), (35, .getfield 20, 3), (38, .invokevirtual 72, 3), (41, .iload_n 2, 1), (42, .if_icmp .ge 5, 3), (45, .iconst 0, 1), (46, .ireturn, 1), (47, .iinc 3 1, 3), (50, .goto (-48), 3), (53, .iconst 1, 1), (54, .ireturn, 1)]
set_option maxRecDepth 100000 in
theorem kc_NewN_isFar : ∀ q ∈ k_NewN_isFar, decode cX2_isFar q.1 = .ok (q.2.1, q.2.2) := by decide +kernel
def k_Past_init : List (Nat × Instr × Nat) := [(0, .aload_n 0, 1), (1, .invokespecial 3, 3), (4, .aload_n 0, 1), (5, .bipush 10, 2), (7, .anewarray 9, 3), (10, .putfield 11, 3), (13, .aload_n 0, 1), (14, .iconst 0, 1), (15, .putfield 17, 3), (18, .aload_n 0, 1), (19, .iconst 0, 1), (20, .putfield 21, 3), (23, .iconst 0, 1), (24, .istore_n 1, 1), (25, .iload_n 1, 1), (26, .bipush 10, 2), (28, .if_icmp .ge 22, 3), (31, .aload_n 0, 1), (32, .getfield 11, 3), (35, .iload_n 1, 1), (36, .new 9, 3), (39, .dup, 1), (40, .invokespecial 24, 3), (43, .aastore, 1), (44, .iinc 1 1, 3), (47, .goto (-22), 3), (50, .return_, 1)]
set_option maxRecDepth 100000 in
theorem kc_Past_init : ∀ q ∈ k_Past_init, decode cX3_init q.1 = .ok (q.2.1, q.2.2) := by decide +kernel
def k_Past_remember : List (Nat × Instr × Nat) := [(0, .aload_n 0, 1), (1, .aload_n 0, 1), (2, .getfield 17, 3), (5, .iconst 1, 1), (6, .iadd, 1), (7, .bipush 10, 2), (9, .if_icmp .ge 12, 3), (12, .aload_n 0, 1), (13, .getfield 17, 3), (16, .iconst 1, 1), (17, .iadd, 1), (18, .goto 4, 3), (21, .iconst 0, 1), (22, .putfield 17, 3), (25, .aload_n 0, 1), (26, .getfield 11, 3), (29, .aload_n 0, 1), (30, .getfield 17, 3), (33, .aaload, 1), (34, .aload_n 1, 1), (35, .invokevirtual 25, 3), (38, .aload_n 0, 1), (39, .aload_n 0, 1), (40, .getfield 21, 3), (43, .iconst 1, 1), (44, .iadd, 1), (45, .bipush 10, 2), (47, .invokestatic 29, 3), (50, .putfield 21, 3), (53, .return_, 1)]
set_option maxRecDepth 100000 in
theorem kc_Past_remember : ∀ q ∈ k_Past_remember, decode cX3_remember q.1 = .ok (q.2.1, q.2.2) := by decide +kernel
def k_Past_takeBack : List (Nat × Instr × Nat) := [(0, .aload_n 0, 1), (1, .getfield 21, 3), (4, .ifCond .le 48, 3), (7, .aload_n 1, 1), (8, .aload_n 0, 1), (9, .getfield 11, 3), (12, .aload_n 0, 1), (13, .getfield 17, 3), (16, .aaload, 1), (17, .invokevirtual 25, 3), (20, .aload_n 0, 1), (21, .aload_n 0, 1), (22, .getfield 17, 3), (25, .ifCond .le 12, 3), (28, .aload_n 0, 1), (29, .getfield 17, 3), (32, .iconst 1, 1), (33, .isub, 1), (34, .goto 5, 3), (37, .bipush 9, 2), (39, .putfield 17, 3), (42, .aload_n 0, 1), (43, .dup, 1), (44, .getfield 21, 3), (47, .iconst 1, 1), (48, .isub, 1), (49, .putfield 21, 3), (52, .return_, 1)]
set_option maxRecDepth 100000 in
theorem kc_Past_takeBack : ∀ q ∈ k_Past_takeBack, decode cX3_takeBack q.1 = .ok (q.2.1, q.2.2) := by decide +kernel
def k_Past_forget : List (Nat × Instr × Nat) := [(0, .aload_n 0, 1), (1, .iconst 0, 1), (2, .putfield 21, 3), (5, .return_, 1)]
set_option maxRecDepth 100000 in
theorem kc_Past_forget : ∀ q ∈ k_Past_forget, decode cX3_forget q.1 = .ok (q.2.1, q.2.2) := by decide +kernel
def k_Row_init : List (Nat × Instr × Nat) := [(0, .aload_n 0, 1), (1, .invokespecial 3, 3), (4, .aload_n 0, 1), (5, .iconst 0, 1), (6, .putfield 9, 3), (9, .aload_n 0, 1), (10, .iconst 0, 1), (11, .iload_n 1, 1), (12, .invokestatic 15, 3), (15, .newarray .int, 2), (17, .putfield 21, 3), (20, .return_, 1)]
set_option maxRecDepth 100000 in
theorem kc_Row_init : ∀ q ∈ k_Row_init, decode cX4_init q.1 = .ok (q.2.1, q.2.2) := by decide +kernel
def k_Row_at : List (Nat × Instr × Nat) := [(0, .iload_n 1, 1), (1, .ifCond .lt 20, 3), (4, .iload_n 1, 1), (5, .aload_n 0, 1), (6, .getfield 9, 3), (9, .if_icmp .ge 12, 3), (12, .aload_n 0, 1), (13, .getfield 21, 3), (16, .iload_n 1, 1), (17, .iaload, 1), (18, .goto 5, 3), (21, .bipush (-9), 2), (23, .ireturn, 1)]
set_option maxRecDepth 100000 in
theorem kc_Row_at : ∀ q ∈ k_Row_at, decode cX4_at q.1 = .ok (q.2.1, q.2.2) := by decide +kernel
def k_Row_last : List (Nat × Instr × Nat) := [(0, .aload_n 0, 1), (1, .aload_n 0, 1), (2, .getfield 9, 3), (5, .iconst 1, 1), (6, .isub, 1), (7, .invokevirtual 25, 3), (10, .ireturn, 1)]
set_option maxRecDepth 100000 in
theorem kc_Row_last : ∀ q ∈ k_Row_last, decode cX4_last q.1 = .ok (q.2.1, q.2.2) := by decide +kernel
def k_Row_empty : List (Nat × Instr × Nat) := [(0, .aload_n 0, 1), (1, .getfield 9, 3), (4, .istore_n 1, 1), (5, .aload_n 0, 1), (6, .iconst 0, 1), (7, .putfield 9, 3), (10, .iload_n 1, 1), (11, .ireturn, 1)]
set_option maxRecDepth 100000 in
theorem kc_Row_empty : ∀ q ∈ k_Row_empty, decode cX4_empty q.1 = .ok (q.2.1, q.2.2) := by decide +kernel
def k_Row_append : List (Nat × Instr × Nat) := [(0, .aload_n 0, 1), (1, .getfield 9, 3), (4, .aload_n 0, 1), (5, .getfield 21, 3), (8, .arraylength, 1), (9, .if_icmp .ge 23, 3), (12, .aload_n 0, 1), (13, .getfield 21, 3), (16, .aload_n 0, 1), (17, .getfield 9, 3), (20, .iload_n 1, 1), (21, .iastore, 1), (22, .aload_n 0, 1), (23, .dup, 1), (24, .getfield 9, 3), (27, .iconst 1, 1), (28, .iadd, 1), (29, .putfield 9, 3), (32, .return_, 1)]
set_option maxRecDepth 100000 in
theorem kc_Row_append : ∀ q ∈ k_Row_append, decode cX4_append q.1 = .ok (q.2.1, q.2.2) := by decide +kernel
def k_Row_dropLast : List (Nat × Instr × Nat) := [(0, .aload_n 0, 1), (1, .getfield 9, 3), (4, .ifCond .le 13, 3), (7, .aload_n 0, 1), (8, .dup, 1), (9, .getfield 9, 3), (12, .iconst 1, 1), (13, .isub, 1), (14, .putfield 9, 3), (17, .return_, 1)]
set_option maxRecDepth 100000 in
theorem kc_Row_dropLast : ∀ q ∈ k_Row_dropLast, decode cX4_dropLast q.1 = .ok (q.2.1, q.2.2) := by decide +kernel
def k_Row_endsUndoing : List (Nat × Instr × Nat) := [(0, .aload_n 0, 1), (1, .getfield 9, 3), (4, .ifCond .le 25, 3), (7, .aload_n 0, 1), (8, .getfield 21, 3), (11, .aload_n 0, 1), (12, .getfield 9, 3), (15, .iconst 1, 1), (16, .isub, 1), (17, .iaload, 1), (18, .iload_n 1, 1), (19, .invokestatic 29, 3), (22, .if_icmp .ne 7, 3), (25, .iconst 1, 1), (26, .goto 4, 3), (29, .iconst 0, 1), (30, .ireturn, 1)]
set_option maxRecDepth 100000 in
theorem kc_Row_endsUndoing : ∀ q ∈ k_Row_endsUndoing, decode cX4_endsUndoing q.1 = .ok (q.2.1, q.2.2) := by decide +kernel
def k_Row_takesTight : List (Nat × Instr × Nat) := [(0, .aload_n 0, 1), (1, .getfield 9, 3), (4, .aload_n 0, 1), (5, .getfield 21, 3), (8, .arraylength, 1), (9, .if_icmp .lt 11, 3), (12, .aload_n 0, 1), (13, .iload_n 1, 1), (14, .invokevirtual 32, 3), (17, .ifCond .eq 7, 3), (20, .iconst 1, 1), (21, .goto 4, 3), (24, .iconst 0, 1), (25, .ireturn, 1)]
set_option maxRecDepth 100000 in
theorem kc_Row_takesTight : ∀ q ∈ k_Row_takesTight, decode cX4_takesTight q.1 = .ok (q.2.1, q.2.2) := by decide +kernel
def k_Row_appendTight : List (Nat × Instr × Nat) := [(0, .aload_n 0, 1), (1, .iload_n 1, 1), (2, .invokevirtual 32, 3), (5, .ifCond .eq 10, 3), (8, .aload_n 0, 1), (9, .invokevirtual 36, 3), (12, .goto 8, 3), (15, .aload_n 0, 1), (16, .iload_n 1, 1), (17, .invokevirtual 39, 3), (20, .return_, 1)]
set_option maxRecDepth 100000 in
theorem kc_Row_appendTight : ∀ q ∈ k_Row_appendTight, decode cX4_appendTight q.1 = .ok (q.2.1, q.2.2) := by decide +kernel
def k_Row_appendAllTight : List (Nat × Instr × Nat) := [(0, .iconst 0, 1), (1, .istore_n 2, 1), (2, .iload_n 2, 1), (3, .aload_n 1, 1), (4, .getfield 9, 3), (7, .if_icmp .ge 18, 3), (10, .aload_n 0, 1), (11, .aload_n 1, 1), (12, .iload_n 2, 1), (13, .invokevirtual 25, 3), (16, .invokevirtual 43, 3), (19, .iinc 2 1, 3), (22, .goto (-20), 3), (25, .return_, 1)]
set_option maxRecDepth 100000 in
theorem kc_Row_appendAllTight : ∀ q ∈ k_Row_appendAllTight, decode cX4_appendAllTight q.1 = .ok (q.2.1, q.2.2) := by decide +kernel
def k_Row_appendAllUndoing : List (Nat × Instr × Nat) := [(0, .aload_n 1, 1), (1, .getfield 9, 3), (4, .iconst 1, 1), (5, .isub, 1), (6, .istore_n 2, 1), (7, .iload_n 2, 1), (8, .ifCond .lt 21, 3), (11, .aload_n 0, 1), (12, .aload_n 1, 1), (13, .iload_n 2, 1), (14, .invokevirtual 25, 3), (17, .invokestatic 29, 3), (20, .invokevirtual 43, 3), (23, .iinc 2 (-1), 3), (26, .goto (-19), 3), (29, .return_, 1)]
set_option maxRecDepth 100000 in
theorem kc_Row_appendAllUndoing : ∀ q ∈ k_Row_appendAllUndoing, decode cX4_appendAllUndoing q.1 = .ok (q.2.1, q.2.2) := by decide +kernel
def k_Row_become : List (Nat × Instr × Nat) := [(0, .aload_n 0, 1), (1, .iconst 0, 1), (2, .putfield 9, 3), (5, .iconst 0, 1), (6, .istore_n 2, 1), (7, .iload_n 2, 1), (8, .aload_n 1, 1), (9, .getfield 9, 3), (12, .if_icmp .ge 18, 3), (15, .aload_n 0, 1), (16, .aload_n 1, 1), (17, .iload_n 2, 1), (18, .invokevirtual 25, 3), (21, .invokevirtual 39, 3), (24, .iinc 2 1, 3), (27, .goto (-20), 3), (30, .return_, 1)]
set_option maxRecDepth 100000 in
theorem kc_Row_become : ∀ q ∈ k_Row_become, decode cX4_become q.1 = .ok (q.2.1, q.2.2) := by decide +kernel
def k_Row_becomeTight : List (Nat × Instr × Nat) := [(0, .aload_n 0, 1), (1, .iconst 0, 1), (2, .putfield 9, 3), (5, .aload_n 0, 1), (6, .aload_n 1, 1), (7, .invokevirtual 46, 3), (10, .return_, 1)]
set_option maxRecDepth 100000 in
theorem kc_Row_becomeTight : ∀ q ∈ k_Row_becomeTight, decode cX4_becomeTight q.1 = .ok (q.2.1, q.2.2) := by decide +kernel
def k_Row_becomeJoined : List (Nat × Instr × Nat) := [(0, .aload_n 0, 1), (1, .aload_n 1, 1), (2, .invokevirtual 50, 3), (5, .aload_n 0, 1), (6, .aload_n 2, 1), (7, .invokevirtual 46, 3), (10, .return_, 1)]
set_option maxRecDepth 100000 in
theorem kc_Row_becomeJoined : ∀ q ∈ k_Row_becomeJoined, decode cX4_becomeJoined q.1 = .ok (q.2.1, q.2.2) := by decide +kernel
def k_Row_isTight : List (Nat × Instr × Nat) := [(0, .iconst 1, 1), (1, .istore_n 1, 1), (2, .iload_n 1, 1), (3, .aload_n 0, 1), (4, .getfield 9, 3), (7, .if_icmp .ge 29, 3), (10, .aload_n 0, 1), (11, .iload_n 1, 1), (12, .invokevirtual 25, 3), (15, .aload_n 0, 1), (16, .iload_n 1, 1), (17, .iconst 1, 1), (18, .isub, 1), (19, .invokevirtual 25, 3), (22, .invokestatic 29, 3), (25, .if_icmp .ne 5, 3), (28, .iconst 0, 1), (29, .ireturn, 1), (30, .iinc 1 1, 3), (33, .goto (-31), 3), (36, .iconst 1, 1), (37, .ireturn, 1)]
set_option maxRecDepth 100000 in
theorem kc_Row_isTight : ∀ q ∈ k_Row_isTight, decode cX4_isTight q.1 = .ok (q.2.1, q.2.2) := by decide +kernel
def k_Row_commonStart : List (Nat × Instr × Nat) := [(0, .aload_n 0, 1), (1, .getfield 9, 3), (4, .aload_n 1, 1), (5, .getfield 9, 3), (8, .invokestatic 53, 3), (11, .istore_n 2, 1), (12, .iconst 0, 1), (13, .istore_n 3, 1), (14, .iload_n 3, 1), (15, .iload_n 2, 1), (16, .if_icmp .ge 24, 3), (19, .aload_n 0, 1), (20, .iload_n 3, 1), (21, .invokevirtual 25, 3), (24, .aload_n 1, 1), (25, .iload_n 3, 1), (26, .invokevirtual 25, 3), (29, .if_icmp .eq 5, 3), (32, .iload_n 3, 1), (33, .ireturn, 1), (34, .iinc 3 1, 3), (37, .goto (-23), 3), (40, .iload_n 2, 1), (41, .ireturn, 1)]
set_option maxRecDepth 100000 in
theorem kc_Row_commonStart : ∀ q ∈ k_Row_commonStart, decode cX4_commonStart q.1 = .ok (q.2.1, q.2.2) := by decide +kernel
def k_Row_isLike : List (Nat × Instr × Nat) := [(0, .aload_n 0, 1), (1, .getfield 9, 3), (4, .aload_n 1, 1), (5, .getfield 9, 3), (8, .if_icmp .ne 19, 3), (11, .aload_n 0, 1), (12, .aload_n 1, 1), (13, .invokevirtual 56, 3), (16, .aload_n 0, 1), (17, .getfield 9, 3), (20, .if_icmp .ne 7, 3), (23, .iconst 1, 1), (24, .goto 4, 3), (27, .iconst 0, 1), (28, .ireturn, 1)]
set_option maxRecDepth 100000 in
theorem kc_Row_isLike : ∀ q ∈ k_Row_isLike, decode cX4_isLike q.1 = .ok (q.2.1, q.2.2) := by decide +kernel
def k_Row_compareWith : List (Nat × Instr × Nat) := [(0, .aload_n 0, 1), (1, .getfield 9, 3), (4, .aload_n 1, 1), (5, .getfield 9, 3), (8, .if_icmp .eq 15, 3), (11, .aload_n 0, 1), (12, .getfield 9, 3), (15, .aload_n 1, 1), (16, .getfield 9, 3), (19, .invokestatic 60, 3), (22, .ireturn, 1), (23, .aload_n 0, 1), (24, .aload_n 1, 1), (25, .invokevirtual 56, 3), (28, .istore_n 2, 1), (29, .aload_n 0, 1), (30, .iload_n 2, 1), (31, .invokevirtual 25, 3), (34, .aload_n 1, 1), (35, .iload_n 2, 1), (36, .invokevirtual 25, 3), (39, .invokestatic 60, 3), (42, .ireturn, 1)]
set_option maxRecDepth 100000 in
theorem kc_Row_compareWith : ∀ q ∈ k_Row_compareWith, decode cX4_compareWith q.1 = .ok (q.2.1, q.2.2) := by decide +kernel
def k_Row_differences : List (Nat × Instr × Nat) := [(0, .iconst 0, 1), (1, .istore_n 2, 1), (2, .iconst 0, 1), (3, .istore_n 3, 1), (4, .iload_n 3, 1), (5, .aload_n 0, 1), (6, .getfield 9, 3), (9, .if_icmp .ge 25, 3), (12, .aload_n 0, 1), (13, .iload_n 3, 1), (14, .invokevirtual 25, 3), (17, .aload_n 1, 1), (18, .iload_n 3, 1), (19, .invokevirtual 25, 3), (22, .if_icmp .eq 6, 3), (25, .iinc 2 1, 3), (28, .iinc 3 1, 3), (31, .goto (-27), 3), (34, .iload_n 2, 1), (35, .ireturn, 1)]
set_option maxRecDepth 100000 in
theorem kc_Row_differences : ∀ q ∈ k_Row_differences, decode cX4_differences q.1 = .ok (q.2.1, q.2.2) := by decide +kernel
def k_Row_shortestRepeated : List (Nat × Instr × Nat) := [(0, .iconst 1, 1), (1, .istore_n 1, 1), (2, .iload_n 1, 1), (3, .aload_n 0, 1), (4, .getfield 9, 3), (7, .if_icmp .ge 28, 3), (10, .aload_n 0, 1), (11, .getfield 9, 3), (14, .iload_n 1, 1), (15, .irem, 1), (16, .ifCond .ne 13, 3), (19, .aload_n 0, 1), (20, .iload_n 1, 1), (21, .invokevirtual 65, 3), (24, .ifCond .eq 5, 3), (27, .iload_n 1, 1), (28, .ireturn, 1), (29, .iinc 1 1, 3), (32, .goto (-30), 3), (35, .aload_n 0, 1), (36, .getfield 9, 3), (39, .ireturn, 1)]
set_option maxRecDepth 100000 in
theorem kc_Row_shortestRepeated : ∀ q ∈ k_Row_shortestRepeated, decode cX4_shortestRepeated q.1 = .ok (q.2.1, q.2.2) := by decide +kernel
def k_Row_repeats : List (Nat × Instr × Nat) := [(0, .iload_n 1, 1), (1, .istore_n 2, 1), (2, .iload_n 2, 1), (3, .aload_n 0, 1), (4, .getfield 9, 3), (7, .if_icmp .ge 26, 3), (10, .aload_n 0, 1), (11, .iload_n 2, 1), (12, .invokevirtual 25, 3), (15, .aload_n 0, 1), (16, .iload_n 2, 1), (17, .iload_n 1, 1), (18, .isub, 1), (19, .invokevirtual 25, 3), (22, .if_icmp .eq 5, 3), (25, .iconst 0, 1), (26, .ireturn, 1), (27, .iinc 2 1, 3), (30, .goto (-28), 3), (33, .iconst 1, 1), (34, .ireturn, 1)]
set_option maxRecDepth 100000 in
theorem kc_Row_repeats : ∀ q ∈ k_Row_repeats, decode cX4_repeats q.1 = .ok (q.2.1, q.2.2) := by decide +kernel
def k_Row_lostByBending : List (Nat × Instr × Nat) := [(0, .iconst 0, 1), (1, .istore_n 1, 1), (2, .iconst 0, 1), (3, .istore_n 2, 1), (4, .iconst 2, 1), (5, .iload_n 2, 1), (6, .imul, 1), (7, .iconst 1, 1), (8, .iadd, 1), (9, .aload_n 0, 1), (10, .getfield 9, 3), (13, .if_icmp .ge 38, 3), (16, .aload_n 0, 1), (17, .iload_n 2, 1), (18, .invokevirtual 25, 3), (21, .aload_n 0, 1), (22, .aload_n 0, 1), (23, .getfield 9, 3), (26, .iconst 1, 1), (27, .isub, 1), (28, .iload_n 2, 1), (29, .isub, 1), (30, .invokevirtual 25, 3), (33, .invokestatic 29, 3), (36, .if_icmp .eq 6, 3), (39, .goto 12, 3), (42, .iinc 1 1, 3), (45, .iinc 2 1, 3), (48, .goto (-44), 3), (51, .iload_n 1, 1), (52, .ireturn, 1)]
set_option maxRecDepth 100000 in
theorem kc_Row_lostByBending : ∀ q ∈ k_Row_lostByBending, decode cX4_lostByBending q.1 = .ok (q.2.1, q.2.2) := by decide +kernel
def k_Row_isRingOf : List (Nat × Instr × Nat) := [(0, .aload_n 0, 1), (1, .invokevirtual 68, 3), (4, .istore_n 2, 1), (5, .aload_n 1, 1), (6, .invokevirtual 68, 3), (9, .istore_n 3, 1), (10, .aload_n 0, 1), (11, .getfield 9, 3), (14, .iconst 2, 1), (15, .iload_n 2, 1), (16, .imul, 1), (17, .isub, 1), (18, .istore 4, 2), (20, .iload 4, 2), (22, .aload_n 1, 1), (23, .getfield 9, 3), (26, .iconst 2, 1), (27, .iload_n 3, 1), (28, .imul, 1), (29, .isub, 1), (30, .if_icmp .eq 5, 3), (33, .iconst 0, 1), (34, .ireturn, 1), (35, .iconst 0, 1), (36, .istore 5, 2), (38, .iload 5, 2), (40, .iload 4, 2), (42, .if_icmp .ge 25, 3), (45, .aload_n 0, 1), (46, .iload 5, 2), (48, .aload_n 1, 1), (49, .iload_n 2, 1), (50, .iload_n 3, 1), (51, .iload 4, 2), (53, .invokevirtual 72, 3), (56, .ifCond .eq 5, 3), (59, .iconst 1, 1), (60, .ireturn, 1), (61, .iinc 5 1, 3), (64, .goto (-26), 3), (67, .iload 4, 2), (69, .ifCond .ne 7, 3), (72, .iconst 1, 1), (73, .goto 4, 3), (76, .iconst 0, 1), (77, .ireturn, 1)]
set_option maxRecDepth 100000 in
theorem kc_Row_isRingOf : ∀ q ∈ k_Row_isRingOf, decode cX4_isRingOf q.1 = .ok (q.2.1, q.2.2) := by decide +kernel
def k_Row_isRingBegunAt : List (Nat × Instr × Nat) := [(0, .iconst 0, 1), (1, .istore 6, 2), (3, .iload 6, 2), (5, .iload 5, 2), (7, .if_icmp .ge 56, 3), (10, .iload_n 1, 1), (11, .iload 6, 2), (13, .iadd, 1), (14, .iload 5, 2), (16, .if_icmp .ge 10, 3), (19, .iload_n 1, 1), (20, .iload 6, 2), (22, .iadd, 1), (23, .goto 10, 3), (26, .iload_n 1, 1), (27, .iload 6, 2), (29, .iadd, 1), (30, .iload 5, 2), (32, .isub, 1), (33, .istore 7, 2), (35, .aload_n 0, 1), (36, .iload_n 3, 1), (37, .iload 7, 2), (39, .iadd, 1), (40, .invokevirtual 25, 3), (43, .aload_n 2, 1), (44, .iload 4, 2), (46, .iload 6, 2), (48, .iadd, 1), (49, .invokevirtual 25, 3), (52, .if_icmp .eq 5, 3), (55, .iconst 0, 1), (56, .ireturn, 1), (57, .iinc 6 1, 3), (60, .goto (-57), 3), (63, .iconst 1, 1), (64, .ireturn, 1)]
set_option maxRecDepth 100000 in
theorem kc_Row_isRingBegunAt : ∀ q ∈ k_Row_isRingBegunAt, decode cX4_isRingBegunAt q.1 = .ok (q.2.1, q.2.2) := by decide +kernel
def k_Text_init : List (Nat × Instr × Nat) := [(0, .aload_n 0, 1), (1, .invokespecial 3, 3), (4, .aload_n 0, 1), (5, .sipush 200, 3), (8, .newarray .char, 2), (10, .putfield 9, 3), (13, .aload_n 0, 1), (14, .iconst 0, 1), (15, .putfield 15, 3), (18, .return_, 1)]
set_option maxRecDepth 100000 in
theorem kc_Text_init : ∀ q ∈ k_Text_init, decode cX5_init q.1 = .ok (q.2.1, q.2.2) := by decide +kernel
def k_Text_append : List (Nat × Instr × Nat) := [(0, .aload_n 0, 1), (1, .getfield 15, 3), (4, .sipush 200, 3), (7, .if_icmp .lt 5, 3), (10, .iconst 0, 1), (11, .ireturn, 1), (12, .aload_n 0, 1), (13, .getfield 9, 3), (16, .aload_n 0, 1), (17, .getfield 15, 3), (20, .iload_n 1, 1), (21, .i2c, 1), (22, .castore, 1), (23, .aload_n 0, 1), (24, .dup, 1), (25, .getfield 15, 3), (28, .iconst 1, 1), (29, .iadd, 1), (30, .putfield 15, 3), (33, .iconst 1, 1), (34, .ireturn, 1)]
set_option maxRecDepth 100000 in
theorem kc_Text_append : ∀ q ∈ k_Text_append, decode cX5_append q.1 = .ok (q.2.1, q.2.2) := by decide +kernel
def k_Text_empty : List (Nat × Instr × Nat) := [(0, .aload_n 0, 1), (1, .iconst 0, 1), (2, .putfield 15, 3), (5, .return_, 1)]
set_option maxRecDepth 100000 in
theorem kc_Text_empty : ∀ q ∈ k_Text_empty, decode cX5_empty q.1 = .ok (q.2.1, q.2.2) := by decide +kernel
def k_Text_isTurnLetter : List (Nat × Instr × Nat) := [(0, .ldc 19, 2), (2, .iload_n 0, 1), (3, .invokevirtual 21, 3), (6, .ifCond .lt 7, 3), (9, .iconst 1, 1), (10, .goto 4, 3), (13, .iconst 0, 1), (14, .ireturn, 1)]
set_option maxRecDepth 100000 in
theorem kc_Text_isTurnLetter : ∀ q ∈ k_Text_isTurnLetter, decode cX5_isTurnLetter q.1 = .ok (q.2.1, q.2.2) := by decide +kernel
def k_Text_fault : List (Nat × Instr × Nat) := [(0, .iconst 0, 1), (1, .istore_n 1, 1), (2, .iconst 0, 1), (3, .istore_n 2, 1), (4, .iconst 0, 1), (5, .istore_n 3, 1), (6, .iconst 0, 1), (7, .istore 4, 2), (9, .iload 4, 2), (11, .aload_n 0, 1), (12, .getfield 15, 3), (15, .if_icmp .ge 98, 3), (18, .aload_n 0, 1), (19, .getfield 9, 3), (22, .iload 4, 2), (24, .caload, 1), (25, .istore 5, 2), (27, .iload 5, 2), (29, .bipush 32, 2), (31, .if_icmp .ne 6, 3), (34, .goto 73, 3), (37, .iload_n 3, 1), (38, .ifCond .eq 15, 3), (41, .iload 5, 2), (43, .bipush 59, 2), (45, .if_icmp .ne 8, 3), (48, .iconst 0, 1), (49, .istore_n 3, 1), (50, .goto 57, 3), (53, .iload_n 3, 1), (54, .ifCond .eq 23, 3), (57, .iload 5, 2), (59, .invokestatic 27, 3), (62, .ifCond .eq 15, 3), (65, .iload_n 2, 1), (66, .bipush 8, 2), (68, .if_icmp .ge 9, 3), (71, .iinc 2 1, 3), (74, .goto 33, 3), (77, .iload_n 3, 1), (78, .ifCond .ne 26, 3), (81, .iload 5, 2), (83, .bipush 104, 2), (85, .if_icmp .ne 19, 3), (88, .iload_n 1, 1), (89, .bipush 6, 2), (91, .if_icmp .ge 13, 3), (94, .iconst 1, 1), (95, .istore_n 3, 1), (96, .iinc 1 1, 3), (99, .iconst 0, 1), (100, .istore_n 2, 1), (101, .goto 6, 3), (104, .iload 4, 2), (106, .ireturn, 1), (107, .iinc 4 1, 3), (110, .goto (-101), 3), (113, .iload_n 3, 1), (114, .ifCond .eq 10, 3), (117, .aload_n 0, 1), (118, .getfield 15, 3), (121, .goto 4, 3), (124, .iconst (-1), 1), (125, .ireturn, 1)]
set_option maxRecDepth 100000 in
theorem kc_Text_fault : ∀ q ∈ k_Text_fault, decode cX5_fault q.1 = .ok (q.2.1, q.2.2) := by decide +kernel
def k_Text_tell : List (Nat × Instr × Nat) := [(0, .aload_n 1, 1), (1, .invokevirtual 31, 3), (4, .iconst 0, 1), (5, .istore_n 2, 1), (6, .iload_n 2, 1), (7, .aload_n 0, 1), (8, .getfield 15, 3), (11, .if_icmp .ge 46, 3), (14, .aload_n 0, 1), (15, .getfield 9, 3), (18, .iload_n 2, 1), (19, .caload, 1), (20, .istore_n 3, 1), (21, .iload_n 3, 1), (22, .bipush 104, 2), (24, .if_icmp .ne 10, 3), (27, .aload_n 1, 1), (28, .invokevirtual 36, 3), (31, .goto 20, 3), (34, .iload_n 3, 1), (35, .invokestatic 27, 3), (38, .ifCond .eq 13, 3), (41, .aload_n 1, 1), (42, .ldc 19, 2), (44, .iload_n 3, 1), (45, .invokevirtual 21, 3), (48, .invokevirtual 39, 3), (51, .iinc 2 1, 3), (54, .goto (-48), 3), (57, .return_, 1)]
set_option maxRecDepth 100000 in
theorem kc_Text_tell : ∀ q ∈ k_Text_tell, decode cX5_tell q.1 = .ok (q.2.1, q.2.2) := by decide +kernel
def k_KN_init : List (Nat × Instr × Nat) := [(0, .aload_n 0, 1), (1, .invokespecial 1, 3), (4, .aload_n 0, 1), (5, .new 7, 3), (8, .dup, 1), (9, .invokespecial 9, 3), (12, .putfield 10, 3), (15, .aload_n 0, 1), (16, .new 16, 3), (19, .dup, 1), (20, .invokespecial 18, 3), (23, .putfield 19, 3), (26, .aload_n 0, 1), (27, .new 23, 3), (30, .dup, 1), (31, .invokespecial 25, 3), (34, .putfield 26, 3), (37, .aload_n 0, 1), (38, .iconst 2, 1), (39, .anewarray 16, 3), (42, .putfield 30, 3), (45, .aload_n 0, 1), (46, .iconst 2, 1), (47, .newarray .boolean, 2), (49, .putfield 34, 3), (52, .aload_n 0, 1), (53, .new 38, 3), (56, .dup, 1), (57, .invokespecial 40, 3), (60, .putfield 41, 3), (63, .aload_n 0, 1), (64, .new 45, 3), (67, .dup, 1), (68, .invokespecial 47, 3), (71, .putfield 48, 3), (74, .aload_n 0, 1), (75, .new 52, 3), (78, .dup, 1), (79, .bipush 24, 2), (81, .invokespecial 54, 3), (84, .putfield 57, 3), (87, .aload_n 0, 1), (88, .new 52, 3), (91, .dup, 1), (92, .bipush 24, 2), (94, .invokespecial 54, 3), (97, .putfield 61, 3), (100, .aload_n 0, 1), (101, .new 52, 3), (104, .dup, 1), (105, .bipush 12, 2), (107, .invokespecial 54, 3), (110, .putfield 64, 3), (113, .aload_n 0, 1), (114, .bipush 13, 2), (116, .bipush 13, 2), (118, .multianewarray 67 2, 4), (122, .putfield 69, 3), (125, .aload_n 0, 1), (126, .lconst 0, 1), (127, .putfield 72, 3), (130, .iconst 0, 1), (131, .istore_n 1, 1), (132, .iload_n 1, 1), (133, .iconst 2, 1), (134, .if_icmp .ge 22, 3), (137, .aload_n 0, 1), (138, .getfield 30, 3), (141, .iload_n 1, 1), (142, .new 16, 3), (145, .dup, 1), (146, .invokespecial 18, 3), (149, .aastore, 1), (150, .iinc 1 1, 3), (153, .goto (-21), 3), (156, .return_, 1)]
set_option maxRecDepth 100000 in
theorem kc_KN_init : ∀ q ∈ k_KN_init, decode cX6_init q.1 = .ok (q.2.1, q.2.2) := by decide +kernel
def k_KN_type : List (Nat × Instr × Nat) := [(0, .iload_n 1, 1), (1, .iconst 0, 1), (2, .sipush 255, 3), (5, .invokestatic 76, 3), (8, .ifCond .ne 5, 3), (11, .iconst (-1), 1), (12, .ireturn, 1), (13, .aload_n 0, 1), (14, .getfield 10, 3), (17, .iload_n 1, 1), (18, .invokevirtual 80, 3), (21, .ifCond .eq 13, 3), (24, .aload_n 0, 1), (25, .getfield 10, 3), (28, .getfield 84, 3), (31, .goto 5, 3), (34, .bipush (-3), 2), (36, .ireturn, 1)]
set_option maxRecDepth 100000 in
theorem kc_KN_type : ∀ q ∈ k_KN_type, decode cX6_type q.1 = .ok (q.2.1, q.2.2) := by decide +kernel
def k_KN_clear : List (Nat × Instr × Nat) := [(0, .aload_n 0, 1), (1, .getfield 10, 3), (4, .getfield 84, 3), (7, .istore_n 1, 1), (8, .aload_n 0, 1), (9, .getfield 10, 3), (12, .invokevirtual 88, 3), (15, .iload_n 1, 1), (16, .ireturn, 1)]
set_option maxRecDepth 100000 in
theorem kc_KN_clear : ∀ q ∈ k_KN_clear, decode cX6_clear q.1 = .ok (q.2.1, q.2.2) := by decide +kernel
def k_KN_camp : List (Nat × Instr × Nat) := [(0, .aload_n 0, 1), (1, .getfield 10, 3), (4, .invokevirtual 91, 3), (7, .istore_n 1, 1), (8, .iload_n 1, 1), (9, .iconst (-1), 1), (10, .if_icmp .eq 8, 3), (13, .bipush (-10), 2), (15, .iload_n 1, 1), (16, .isub, 1), (17, .ireturn, 1), (18, .aload_n 0, 1), (19, .getfield 10, 3), (22, .aload_n 0, 1), (23, .getfield 19, 3), (26, .invokevirtual 95, 3), (29, .aload_n 0, 1), (30, .getfield 10, 3), (33, .invokevirtual 88, 3), (36, .aload_n 0, 1), (37, .getfield 26, 3), (40, .invokevirtual 99, 3), (43, .iconst 0, 1), (44, .istore_n 2, 1), (45, .iload_n 2, 1), (46, .iconst 2, 1), (47, .if_icmp .ge 16, 3), (50, .aload_n 0, 1), (51, .getfield 34, 3), (54, .iload_n 2, 1), (55, .iconst 0, 1), (56, .bastore, 1), (57, .iinc 2 1, 3), (60, .goto (-15), 3), (63, .aload_n 0, 1), (64, .getfield 19, 3), (67, .getfield 102, 3), (70, .ireturn, 1)]
set_option maxRecDepth 100000 in
theorem kc_KN_camp : ∀ q ∈ k_KN_camp, decode cX6_camp q.1 = .ok (q.2.1, q.2.2) := by decide +kernel
def k_KN_name : List (Nat × Instr × Nat) := [(0, .aload_n 0, 1), (1, .getfield 19, 3), (4, .iload_n 1, 1), (5, .invokevirtual 105, 3), (8, .ifCond .ne 5, 3), (11, .iconst (-1), 1), (12, .ireturn, 1), (13, .aload_n 0, 1), (14, .getfield 19, 3), (17, .iload_n 1, 1), (18, .invokevirtual 108, 3), (21, .iload_n 2, 1), (22, .invokestatic 112, 3), (25, .ireturn, 1)]
set_option maxRecDepth 100000 in
theorem kc_KN_name : ∀ q ∈ k_KN_name, decode cX6_name q.1 = .ok (q.2.1, q.2.2) := by decide +kernel
def k_KN_contract : List (Nat × Instr × Nat) := [(0, .aload_n 0, 1), (1, .getfield 19, 3), (4, .getfield 116, 3), (7, .iload_n 1, 1), (8, .invokestatic 112, 3), (11, .ireturn, 1)]
set_option maxRecDepth 100000 in
theorem kc_KN_contract : ∀ q ∈ k_KN_contract, decode cX6_contract q.1 = .ok (q.2.1, q.2.2) := by decide +kernel
def k_KN_now : List (Nat × Instr × Nat) := [(0, .iload_n 1, 1), (1, .tableswitch 63 0 3 #[31, 39, 47, 55], 31), (32, .aload_n 0, 1), (33, .getfield 19, 3), (36, .invokevirtual 119, 3), (39, .ireturn, 1), (40, .aload_n 0, 1), (41, .getfield 19, 3), (44, .invokevirtual 122, 3), (47, .ireturn, 1), (48, .aload_n 0, 1), (49, .getfield 19, 3), (52, .invokevirtual 125, 3), (55, .ireturn, 1), (56, .aload_n 0, 1), (57, .getfield 26, 3), (60, .getfield 128, 3), (63, .ireturn, 1), (64, .iconst (-1), 1), (65, .ireturn, 1)]
set_option maxRecDepth 100000 in
theorem kc_KN_now : ∀ q ∈ k_KN_now, decode cX6_now q.1 = .ok (q.2.1, q.2.2) := by decide +kernel
def k_KN_ties : List (Nat × Instr × Nat) := [(0, .aload_n 0, 1), (1, .getfield 19, 3), (4, .iload_n 1, 1), (5, .invokevirtual 105, 3), (8, .ifCond .eq 10, 3), (11, .iload_n 2, 1), (12, .invokestatic 131, 3), (15, .ifCond .ne 5, 3), (18, .iconst (-1), 1), (19, .ireturn, 1), (20, .aload_n 0, 1), (21, .getfield 19, 3), (24, .iload_n 1, 1), (25, .invokevirtual 108, 3), (28, .astore_n 3, 1), (29, .aload_n 3, 1), (30, .iload_n 2, 1), (31, .invokevirtual 134, 3), (34, .ifCond .ne 6, 3), (37, .bipush (-3), 2), (39, .ireturn, 1), (40, .aload_n 0, 1), (41, .getfield 26, 3), (44, .aload_n 0, 1), (45, .getfield 19, 3), (48, .invokevirtual 137, 3), (51, .aload_n 3, 1), (52, .iload_n 2, 1), (53, .invokevirtual 140, 3), (56, .aload_n 3, 1), (57, .getfield 143, 3), (60, .ireturn, 1)]
set_option maxRecDepth 100000 in
theorem kc_KN_ties : ∀ q ∈ k_KN_ties, decode cX6_ties q.1 = .ok (q.2.1, q.2.2) := by decide +kernel
def k_KN_loosens : List (Nat × Instr × Nat) := [(0, .aload_n 0, 1), (1, .getfield 19, 3), (4, .iload_n 1, 1), (5, .invokevirtual 105, 3), (8, .ifCond .ne 5, 3), (11, .iconst (-1), 1), (12, .ireturn, 1), (13, .aload_n 0, 1), (14, .getfield 19, 3), (17, .iload_n 1, 1), (18, .invokevirtual 108, 3), (21, .astore_n 2, 1), (22, .aload_n 2, 1), (23, .getfield 143, 3), (26, .ifCond .ne 6, 3), (29, .bipush (-2), 2), (31, .ireturn, 1), (32, .aload_n 0, 1), (33, .getfield 26, 3), (36, .aload_n 0, 1), (37, .getfield 19, 3), (40, .invokevirtual 137, 3), (43, .aload_n 2, 1), (44, .invokevirtual 144, 3), (47, .istore_n 3, 1), (48, .aload_n 2, 1), (49, .invokevirtual 147, 3), (52, .iload_n 3, 1), (53, .ireturn, 1)]
set_option maxRecDepth 100000 in
theorem kc_KN_loosens : ∀ q ∈ k_KN_loosens, decode cX6_loosens q.1 = .ok (q.2.1, q.2.2) := by decide +kernel
def k_KN_bends : List (Nat × Instr × Nat) := [(0, .aload_n 0, 1), (1, .getfield 19, 3), (4, .iload_n 1, 1), (5, .invokevirtual 105, 3), (8, .ifCond .eq 19, 3), (11, .aload_n 0, 1), (12, .getfield 19, 3), (15, .iload_n 2, 1), (16, .invokevirtual 105, 3), (19, .ifCond .eq 8, 3), (22, .iload_n 1, 1), (23, .iload_n 2, 1), (24, .if_icmp .ne 5, 3), (27, .iconst (-1), 1), (28, .ireturn, 1), (29, .aload_n 0, 1), (30, .getfield 57, 3), (33, .aload_n 0, 1), (34, .getfield 19, 3), (37, .iload_n 1, 1), (38, .invokevirtual 108, 3), (41, .aload_n 0, 1), (42, .getfield 19, 3), (45, .iload_n 2, 1), (46, .invokevirtual 108, 3), (49, .invokevirtual 150, 3), (52, .aload_n 0, 1), (53, .getfield 61, 3), (56, .aload_n 0, 1), (57, .getfield 19, 3), (60, .iload_n 2, 1), (61, .invokevirtual 108, 3), (64, .aload_n 0, 1), (65, .getfield 19, 3), (68, .iload_n 1, 1), (69, .invokevirtual 108, 3), (72, .invokevirtual 150, 3), (75, .aload_n 0, 1), (76, .getfield 57, 3), (79, .getfield 143, 3), (82, .bipush 12, 2), (84, .if_icmp .gt 15, 3), (87, .aload_n 0, 1), (88, .getfield 61, 3), (91, .getfield 143, 3), (94, .bipush 12, 2), (96, .if_icmp .le 6, 3), (99, .bipush (-3), 2), (101, .ireturn, 1), (102, .aload_n 0, 1), (103, .getfield 26, 3), (106, .aload_n 0, 1), (107, .getfield 19, 3), (110, .invokevirtual 137, 3), (113, .aload_n 0, 1), (114, .getfield 19, 3), (117, .iload_n 1, 1), (118, .invokevirtual 108, 3), (121, .aload_n 0, 1), (122, .getfield 57, 3), (125, .invokevirtual 154, 3), (128, .aload_n 0, 1), (129, .getfield 19, 3), (132, .iload_n 2, 1), (133, .invokevirtual 108, 3), (136, .aload_n 0, 1), (137, .getfield 61, 3), (140, .invokevirtual 154, 3), (143, .aload_n 0, 1), (144, .getfield 57, 3), (147, .getfield 143, 3), (150, .ireturn, 1)]
set_option maxRecDepth 100000 in
theorem kc_KN_bends : ∀ q ∈ k_KN_bends, decode cX6_bends q.1 = .ok (q.2.1, q.2.2) := by decide +kernel
def k_KN_unties : List (Nat × Instr × Nat) := [(0, .aload_n 0, 1), (1, .getfield 19, 3), (4, .iload_n 1, 1), (5, .invokevirtual 105, 3), (8, .ifCond .ne 5, 3), (11, .iconst (-1), 1), (12, .ireturn, 1), (13, .aload_n 0, 1), (14, .getfield 26, 3), (17, .aload_n 0, 1), (18, .getfield 19, 3), (21, .invokevirtual 137, 3), (24, .aload_n 0, 1), (25, .getfield 19, 3), (28, .iload_n 1, 1), (29, .invokevirtual 108, 3), (32, .invokevirtual 158, 3), (35, .ireturn, 1)]
set_option maxRecDepth 100000 in
theorem kc_KN_unties : ∀ q ∈ k_KN_unties, decode cX6_unties q.1 = .ok (q.2.1, q.2.2) := by decide +kernel
def k_KN_adds : List (Nat × Instr × Nat) := [(0, .iload_n 1, 1), (1, .invokestatic 131, 3), (4, .ifCond .ne 5, 3), (7, .iconst (-1), 1), (8, .ireturn, 1), (9, .aload_n 0, 1), (10, .getfield 19, 3), (13, .getfield 116, 3), (16, .getfield 143, 3), (19, .bipush 12, 2), (21, .if_icmp .lt 6, 3), (24, .bipush (-3), 2), (26, .ireturn, 1), (27, .aload_n 0, 1), (28, .getfield 26, 3), (31, .aload_n 0, 1), (32, .getfield 19, 3), (35, .invokevirtual 137, 3), (38, .aload_n 0, 1), (39, .getfield 19, 3), (42, .getfield 116, 3), (45, .iload_n 1, 1), (46, .invokevirtual 160, 3), (49, .aload_n 0, 1), (50, .getfield 19, 3), (53, .getfield 116, 3), (56, .getfield 143, 3), (59, .ireturn, 1)]
set_option maxRecDepth 100000 in
theorem kc_KN_adds : ∀ q ∈ k_KN_adds, decode cX6_adds q.1 = .ok (q.2.1, q.2.2) := by decide +kernel
def k_KN_tears : List (Nat × Instr × Nat) := [(0, .aload_n 0, 1), (1, .getfield 26, 3), (4, .aload_n 0, 1), (5, .getfield 19, 3), (8, .invokevirtual 137, 3), (11, .aload_n 0, 1), (12, .getfield 19, 3), (15, .getfield 116, 3), (18, .invokevirtual 158, 3), (21, .ireturn, 1)]
set_option maxRecDepth 100000 in
theorem kc_KN_tears : ∀ q ∈ k_KN_tears, decode cX6_tears q.1 = .ok (q.2.1, q.2.2) := by decide +kernel
def k_KN_undo : List (Nat × Instr × Nat) := [(0, .aload_n 0, 1), (1, .getfield 26, 3), (4, .getfield 128, 3), (7, .ifCond .ne 6, 3), (10, .bipush (-2), 2), (12, .ireturn, 1), (13, .aload_n 0, 1), (14, .getfield 26, 3), (17, .aload_n 0, 1), (18, .getfield 19, 3), (21, .invokevirtual 162, 3), (24, .aload_n 0, 1), (25, .getfield 26, 3), (28, .getfield 128, 3), (31, .ireturn, 1)]
set_option maxRecDepth 100000 in
theorem kc_KN_undo : ∀ q ∈ k_KN_undo, decode cX6_undo q.1 = .ok (q.2.1, q.2.2) := by decide +kernel
def k_KN_alike : List (Nat × Instr × Nat) := [(0, .aload_n 0, 1), (1, .getfield 19, 3), (4, .iload_n 1, 1), (5, .invokevirtual 105, 3), (8, .ifCond .eq 14, 3), (11, .aload_n 0, 1), (12, .getfield 19, 3), (15, .iload_n 1, 1), (16, .invokevirtual 165, 3), (19, .goto 4, 3), (22, .iconst (-1), 1), (23, .ireturn, 1)]
set_option maxRecDepth 100000 in
theorem kc_KN_alike : ∀ q ∈ k_KN_alike, decode cX6_alike q.1 = .ok (q.2.1, q.2.2) := by decide +kernel
def k_KN_ring : List (Nat × Instr × Nat) := [(0, .aload_n 0, 1), (1, .getfield 19, 3), (4, .iload_n 1, 1), (5, .invokevirtual 105, 3), (8, .ifCond .ne 5, 3), (11, .iconst (-1), 1), (12, .ireturn, 1), (13, .iconst 0, 1), (14, .istore_n 2, 1), (15, .iconst 0, 1), (16, .istore_n 3, 1), (17, .iload_n 3, 1), (18, .aload_n 0, 1), (19, .getfield 19, 3), (22, .getfield 102, 3), (25, .if_icmp .ge 37, 3), (28, .aload_n 0, 1), (29, .getfield 19, 3), (32, .iload_n 1, 1), (33, .invokevirtual 108, 3), (36, .aload_n 0, 1), (37, .getfield 19, 3), (40, .iload_n 3, 1), (41, .invokevirtual 108, 3), (44, .invokevirtual 169, 3), (47, .ifCond .eq 9, 3), (50, .iload_n 2, 1), (51, .iconst 1, 1), (52, .iload_n 3, 1), (53, .ishl, 1), (54, .ior, 1), (55, .istore_n 2, 1), (56, .iinc 3 1, 3), (59, .goto (-42), 3), (62, .iload_n 2, 1), (63, .ireturn, 1)]
set_option maxRecDepth 100000 in
theorem kc_KN_ring : ∀ q ∈ k_KN_ring, decode cX6_ring q.1 = .ok (q.2.1, q.2.2) := by decide +kernel
def k_KN_way : List (Nat × Instr × Nat) := [(0, .aload_n 0, 1), (1, .getfield 19, 3), (4, .iload_n 1, 1), (5, .invokevirtual 105, 3), (8, .ifCond .eq 14, 3), (11, .aload_n 0, 1), (12, .getfield 19, 3), (15, .iload_n 2, 1), (16, .invokevirtual 105, 3), (19, .ifCond .ne 5, 3), (22, .iconst (-1), 1), (23, .ireturn, 1), (24, .aload_n 0, 1), (25, .getfield 19, 3), (28, .iload_n 1, 1), (29, .invokevirtual 108, 3), (32, .astore_n 3, 1), (33, .aload_n 0, 1), (34, .getfield 19, 3), (37, .iload_n 2, 1), (38, .invokevirtual 108, 3), (41, .astore 4, 2), (43, .aload_n 3, 1), (44, .getfield 143, 3), (47, .aload 4, 2), (49, .getfield 143, 3), (52, .iadd, 1), (53, .iconst 2, 1), (54, .aload_n 3, 1), (55, .aload 4, 2), (57, .invokevirtual 173, 3), (60, .imul, 1), (61, .isub, 1), (62, .ireturn, 1)]
set_option maxRecDepth 100000 in
theorem kc_KN_way : ∀ q ∈ k_KN_way, decode cX6_way q.1 = .ok (q.2.1, q.2.2) := by decide +kernel
def k_KN_root : List (Nat × Instr × Nat) := [(0, .aload_n 0, 1), (1, .getfield 19, 3), (4, .iload_n 1, 1), (5, .invokevirtual 105, 3), (8, .ifCond .eq 17, 3), (11, .aload_n 0, 1), (12, .getfield 19, 3), (15, .iload_n 1, 1), (16, .invokevirtual 108, 3), (19, .invokevirtual 177, 3), (22, .goto 4, 3), (25, .iconst (-1), 1), (26, .ireturn, 1)]
set_option maxRecDepth 100000 in
theorem kc_KN_root : ∀ q ∈ k_KN_root, decode cX6_root q.1 = .ok (q.2.1, q.2.2) := by decide +kernel
def k_KN_order : List (Nat × Instr × Nat) := [(0, .aload_n 0, 1), (1, .getfield 19, 3), (4, .iload_n 1, 1), (5, .invokevirtual 105, 3), (8, .ifCond .ne 5, 3), (11, .iconst (-1), 1), (12, .ireturn, 1), (13, .iconst 0, 1), (14, .istore_n 2, 1), (15, .iconst 0, 1), (16, .istore_n 3, 1), (17, .iload_n 3, 1), (18, .aload_n 0, 1), (19, .getfield 19, 3), (22, .getfield 102, 3), (25, .if_icmp .ge 48, 3), (28, .aload_n 0, 1), (29, .getfield 19, 3), (32, .iload_n 3, 1), (33, .invokevirtual 108, 3), (36, .aload_n 0, 1), (37, .getfield 19, 3), (40, .iload_n 1, 1), (41, .invokevirtual 108, 3), (44, .invokevirtual 180, 3), (47, .istore 4, 2), (49, .iload 4, 2), (51, .ifCond .lt 13, 3), (54, .iload 4, 2), (56, .ifCond .ne 11, 3), (59, .iload_n 3, 1), (60, .iload_n 1, 1), (61, .if_icmp .ge 6, 3), (64, .iinc 2 1, 3), (67, .iinc 3 1, 3), (70, .goto (-53), 3), (73, .iload_n 2, 1), (74, .ireturn, 1)]
set_option maxRecDepth 100000 in
theorem kc_KN_order : ∀ q ∈ k_KN_order, decode cX6_order q.1 = .ok (q.2.1, q.2.2) := by decide +kernel
def k_KN_cold : List (Nat × Instr × Nat) := [(0, .aload_n 0, 1), (1, .getfield 19, 3), (4, .iload_n 1, 1), (5, .invokevirtual 105, 3), (8, .ifCond .eq 34, 3), (11, .aload_n 0, 1), (12, .getfield 19, 3), (15, .iload_n 2, 1), (16, .invokevirtual 105, 3), (19, .ifCond .eq 23, 3), (22, .iload_n 3, 1), (23, .iconst 0, 1), (24, .bipush 10, 2), (26, .invokestatic 76, 3), (29, .ifCond .eq 13, 3), (32, .iload 4, 2), (34, .iconst 0, 1), (35, .iconst 1, 1), (36, .invokestatic 76, 3), (39, .ifCond .ne 7, 3), (42, .ldc2_w 183, 3), (45, .lreturn, 1), (46, .aload_n 0, 1), (47, .getfield 19, 3), (50, .iload_n 1, 1), (51, .invokevirtual 108, 3), (54, .astore 5, 2), (56, .aload_n 0, 1), (57, .getfield 19, 3), (60, .iload_n 2, 1), (61, .invokevirtual 108, 3), (64, .astore 6, 2), (66, .aload 5, 2), (68, .getfield 143, 3), (71, .aload 6, 2), (73, .getfield 143, 3), (76, .if_icmp .eq 11, 3), (79, .lconst 0, 1), (80, .lconst 1, 1), (81, .iload 4, 2), (83, .invokestatic 185, 3), (86, .lreturn, 1), (87, .lconst 1, 1), (88, .lstore 7, 2), (90, .iconst 0, 1), (91, .istore 9, 2), (93, .iload 9, 2), (95, .aload 5, 2), (97, .getfield 143, 3), (100, .if_icmp .ge 33, 3), (103, .lload 7, 2), (105, .aload 5, 2), (107, .iload 9, 2), (109, .invokevirtual 189, 3), (112, .aload 6, 2), (114, .iload 9, 2), (116, .invokevirtual 189, 3), (119, .iload_n 3, 1), (120, .invokestatic 192, 3), (123, .i2l, 1), (124, .lmul, 1), (125, .lstore 7, 2), (127, .iinc 9 1, 3), (130, .goto (-37), 3), (133, .lload 7, 2), (135, .bipush 10, 2), (137, .aload 5, 2), (139, .getfield 143, 3), (142, .invokestatic 196, 3), (145, .iload 4, 2), (147, .invokestatic 185, 3), (150, .lreturn, 1)]
set_option maxRecDepth 100000 in
theorem kc_KN_cold : ∀ q ∈ k_KN_cold, decode cX6_cold q.1 = .ok (q.2.1, q.2.2) := by decide +kernel
def k_KN_mixed : List (Nat × Instr × Nat) := [(0, .aload_n 0, 1), (1, .getfield 19, 3), (4, .iload_n 1, 1), (5, .invokevirtual 105, 3), (8, .ifCond .eq 13, 3), (11, .iload_n 2, 1), (12, .iconst 0, 1), (13, .bipush 12, 2), (15, .invokestatic 76, 3), (18, .ifCond .ne 5, 3), (21, .iconst (-1), 1), (22, .ireturn, 1), (23, .aload_n 0, 1), (24, .getfield 19, 3), (27, .iload_n 1, 1), (28, .invokevirtual 108, 3), (31, .astore_n 3, 1), (32, .iconst 0, 1), (33, .istore 4, 2), (35, .iconst 0, 1), (36, .istore 5, 2), (38, .iload 5, 2), (40, .aload_n 0, 1), (41, .getfield 19, 3), (44, .getfield 102, 3), (47, .if_icmp .ge 51, 3), (50, .aload_n 0, 1), (51, .getfield 19, 3), (54, .iload 5, 2), (56, .invokevirtual 108, 3), (59, .astore 6, 2), (61, .aload_n 3, 1), (62, .getfield 143, 3), (65, .aload 6, 2), (67, .getfield 143, 3), (70, .if_icmp .ne 22, 3), (73, .aload_n 3, 1), (74, .aload 6, 2), (76, .invokevirtual 200, 3), (79, .iload_n 2, 1), (80, .if_icmp .gt 12, 3), (83, .iload 4, 2), (85, .iconst 1, 1), (86, .iload 5, 2), (88, .ishl, 1), (89, .ior, 1), (90, .istore 4, 2), (92, .iinc 5 1, 3), (95, .goto (-57), 3), (98, .iload 4, 2), (100, .ireturn, 1)]
set_option maxRecDepth 100000 in
theorem kc_KN_mixed : ∀ q ∈ k_KN_mixed, decode cX6_mixed q.1 = .ok (q.2.1, q.2.2) := by decide +kernel
def k_KN_newName : List (Nat × Instr × Nat) := [(0, .iload_n 1, 1), (1, .iconst 1, 1), (2, .iconst 4, 1), (3, .invokestatic 76, 3), (6, .ifCond .eq 23, 3), (9, .iload_n 2, 1), (10, .iconst 1, 1), (11, .iconst 4, 1), (12, .invokestatic 76, 3), (15, .ifCond .eq 14, 3), (18, .iload_n 3, 1), (19, .iconst (-1), 1), (20, .iload_n 1, 1), (21, .iconst 1, 1), (22, .isub, 1), (23, .invokestatic 76, 3), (26, .ifCond .ne 5, 3), (29, .iconst (-1), 1), (30, .ireturn, 1), (31, .aload_n 0, 1), (32, .getfield 48, 3), (35, .aload_n 0, 1), (36, .getfield 19, 3), (39, .iload_n 1, 1), (40, .iload_n 2, 1), (41, .invokevirtual 203, 3), (44, .iload_n 3, 1), (45, .iconst (-1), 1), (46, .if_icmp .ne 11, 3), (49, .aload_n 0, 1), (50, .getfield 48, 3), (53, .getfield 207, 3), (56, .ireturn, 1), (57, .aload_n 0, 1), (58, .getfield 48, 3), (61, .getfield 207, 3), (64, .ifCond .ne 8, 3), (67, .bipush (-9), 2), (69, .goto 14, 3), (72, .aload_n 0, 1), (73, .getfield 48, 3), (76, .getfield 210, 3), (79, .iload_n 3, 1), (80, .invokevirtual 189, 3), (83, .ireturn, 1)]
set_option maxRecDepth 100000 in
theorem kc_KN_newName : ∀ q ∈ k_KN_newName, decode cX6_newName q.1 = .ok (q.2.1, q.2.2) := by decide +kernel
def k_KN_pulls : List (Nat × Instr × Nat) := [(0, .aload_n 0, 1), (1, .getfield 64, 3), (4, .aload_n 0, 1), (5, .getfield 19, 3), (8, .getfield 116, 3), (11, .invokevirtual 213, 3), (14, .iload_n 1, 1), (15, .tableswitch 99 0 3 #[29, 45, 53, 78], 29), (44, .aload_n 0, 1), (45, .getfield 64, 3), (48, .getfield 143, 3), (51, .ifCond .ne 7, 3), (54, .iconst 1, 1), (55, .goto 4, 3), (58, .iconst 0, 1), (59, .ireturn, 1), (60, .aload_n 0, 1), (61, .getfield 64, 3), (64, .getfield 143, 3), (67, .ireturn, 1), (68, .aload_n 0, 1), (69, .getfield 19, 3), (72, .getfield 116, 3), (75, .getfield 143, 3), (78, .iconst 2, 1), (79, .aload_n 0, 1), (80, .aload_n 0, 1), (81, .getfield 19, 3), (84, .getfield 116, 3), (87, .invokevirtual 216, 3), (90, .imul, 1), (91, .isub, 1), (92, .ireturn, 1), (93, .aload_n 0, 1), (94, .getfield 19, 3), (97, .getfield 116, 3), (100, .getfield 143, 3), (103, .aload_n 0, 1), (104, .getfield 64, 3), (107, .getfield 143, 3), (110, .isub, 1), (111, .iconst 2, 1), (112, .idiv, 1), (113, .ireturn, 1), (114, .iconst (-1), 1), (115, .ireturn, 1)]
set_option maxRecDepth 100000 in
theorem kc_KN_pulls : ∀ q ∈ k_KN_pulls, decode cX6_pulls q.1 = .ok (q.2.1, q.2.2) := by decide +kernel
def k_KN_lives : List (Nat × Instr × Nat) := [(0, .iload_n 1, 1), (1, .iconst (-1), 1), (2, .if_icmp .ge 5, 3), (5, .iconst (-1), 1), (6, .ireturn, 1), (7, .aload_n 0, 1), (8, .getfield 41, 3), (11, .aload_n 0, 1), (12, .getfield 19, 3), (15, .invokevirtual 219, 3), (18, .iload_n 1, 1), (19, .iconst (-1), 1), (20, .if_icmp .ne 11, 3), (23, .aload_n 0, 1), (24, .getfield 41, 3), (27, .getfield 222, 3), (30, .ireturn, 1), (31, .aload_n 0, 1), (32, .getfield 41, 3), (35, .getfield 222, 3), (38, .ifCond .ne 6, 3), (41, .bipush (-9), 2), (43, .ireturn, 1), (44, .iload_n 1, 1), (45, .aload_n 0, 1), (46, .getfield 41, 3), (49, .getfield 223, 3), (52, .if_icmp .ge 15, 3), (55, .aload_n 0, 1), (56, .getfield 41, 3), (59, .getfield 226, 3), (62, .iload_n 1, 1), (63, .iaload, 1), (64, .goto 5, 3), (67, .bipush (-5), 2), (69, .ireturn, 1)]
set_option maxRecDepth 100000 in
theorem kc_KN_lives : ∀ q ∈ k_KN_lives, decode cX6_lives q.1 = .ok (q.2.1, q.2.2) := by decide +kernel
def k_KN_next : List (Nat × Instr × Nat) := [(0, .aload_n 0, 1), (1, .getfield 41, 3), (4, .aload_n 0, 1), (5, .getfield 19, 3), (8, .invokevirtual 219, 3), (11, .aload_n 0, 1), (12, .getfield 41, 3), (15, .getfield 222, 3), (18, .ifCond .ne 8, 3), (21, .bipush (-9), 2), (23, .goto 10, 3), (26, .aload_n 0, 1), (27, .getfield 41, 3), (30, .invokevirtual 229, 3), (33, .ireturn, 1)]
set_option maxRecDepth 100000 in
theorem kc_KN_next : ∀ q ∈ k_KN_next, decode cX6_next q.1 = .ok (q.2.1, q.2.2) := by decide +kernel
def k_KN_porridge : List (Nat × Instr × Nat) := [(0, .iload_n 1, 1), (1, .iconst 0, 1), (2, .bipush 10, 2), (4, .invokestatic 76, 3), (7, .ifCond .eq 33, 3), (10, .iload_n 2, 1), (11, .iconst 0, 1), (12, .bipush 6, 2), (14, .invokestatic 76, 3), (17, .ifCond .eq 23, 3), (20, .iload_n 3, 1), (21, .iconst 0, 1), (22, .bipush 6, 2), (24, .invokestatic 76, 3), (27, .ifCond .eq 13, 3), (30, .iload 4, 2), (32, .iconst 0, 1), (33, .iconst 1, 1), (34, .invokestatic 76, 3), (37, .ifCond .ne 5, 3), (40, .iconst (-1), 1), (41, .ireturn, 1), (42, .lconst 0, 1), (43, .lstore 5, 2), (45, .iconst 0, 1), (46, .istore 7, 2), (48, .iload 7, 2), (50, .iconst 1, 1), (51, .iload_n 2, 1), (52, .ishl, 1), (53, .if_icmp .ge 55, 3), (56, .iload 7, 2), (58, .invokestatic 232, 3), (61, .istore 8, 2), (63, .iload_n 2, 1), (64, .iload 8, 2), (66, .isub, 1), (67, .istore 9, 2), (69, .iload 8, 2), (71, .iload 9, 2), (73, .isub, 1), (74, .invokestatic 237, 3), (77, .iload_n 3, 1), (78, .if_icmp .ne 24, 3), (81, .lload 5, 2), (83, .iload_n 1, 1), (84, .iload 8, 2), (86, .invokestatic 196, 3), (89, .bipush 10, 2), (91, .iload_n 1, 1), (92, .isub, 1), (93, .iload 9, 2), (95, .invokestatic 196, 3), (98, .lmul, 1), (99, .ladd, 1), (100, .lstore 5, 2), (102, .iinc 7 1, 3), (105, .goto (-57), 3), (108, .lload 5, 2), (110, .bipush 10, 2), (112, .iload_n 2, 1), (113, .invokestatic 196, 3), (116, .iload 4, 2), (118, .invokestatic 185, 3), (121, .l2i, 1), (122, .ireturn, 1)]
set_option maxRecDepth 100000 in
theorem kc_KN_porridge : ∀ q ∈ k_KN_porridge, decode cX6_porridge q.1 = .ok (q.2.1, q.2.2) := by decide +kernel
def k_KN_share : List (Nat × Instr × Nat) := [(0, .aload_n 0, 1), (1, .getfield 19, 3), (4, .iload_n 1, 1), (5, .invokevirtual 105, 3), (8, .ifCond .eq 13, 3), (11, .iload_n 2, 1), (12, .iconst 1, 1), (13, .bipush 99, 2), (15, .invokestatic 76, 3), (18, .ifCond .ne 5, 3), (21, .iconst (-1), 1), (22, .ireturn, 1), (23, .iconst 1, 1), (24, .aload_n 0, 1), (25, .getfield 19, 3), (28, .invokevirtual 122, 3), (31, .invokestatic 242, 3), (34, .istore_n 3, 1), (35, .iconst 1, 1), (36, .aload_n 0, 1), (37, .getfield 19, 3), (40, .iload_n 1, 1), (41, .invokevirtual 165, 3), (44, .invokestatic 232, 3), (47, .invokestatic 242, 3), (50, .istore 4, 2), (52, .iload_n 2, 1), (53, .iload_n 3, 1), (54, .idiv, 1), (55, .iload 4, 2), (57, .idiv, 1), (58, .ireturn, 1)]
set_option maxRecDepth 100000 in
theorem kc_KN_share : ∀ q ∈ k_KN_share, decode cX6_share q.1 = .ok (q.2.1, q.2.2) := by decide +kernel
def k_KN_rate : List (Nat × Instr × Nat) := [(0, .aload_n 0, 1), (1, .getfield 19, 3), (4, .iload_n 2, 1), (5, .invokevirtual 105, 3), (8, .ifCond .ne 6, 3), (11, .ldc 246, 2), (13, .ireturn, 1), (14, .iload_n 1, 1), (15, .tableswitch 73 0 5 #[37, 43, 49, 55, 61, 67], 37), (52, .aload_n 0, 1), (53, .iload_n 2, 1), (54, .invokevirtual 247, 3), (57, .ireturn, 1), (58, .aload_n 0, 1), (59, .iload_n 2, 1), (60, .invokevirtual 250, 3), (63, .ireturn, 1), (64, .aload_n 0, 1), (65, .iload_n 2, 1), (66, .invokevirtual 253, 3), (69, .ireturn, 1), (70, .aload_n 0, 1), (71, .iload_n 2, 1), (72, .invokevirtual 256, 3), (75, .ireturn, 1), (76, .aload_n 0, 1), (77, .iload_n 2, 1), (78, .invokevirtual 259, 3), (81, .ireturn, 1), (82, .aload_n 0, 1), (83, .iload_n 2, 1), (84, .invokevirtual 262, 3), (87, .ireturn, 1), (88, .ldc 246, 2), (90, .ireturn, 1)]
set_option maxRecDepth 100000 in
theorem kc_KN_rate : ∀ q ∈ k_KN_rate, decode cX6_rate q.1 = .ok (q.2.1, q.2.2) := by decide +kernel
def k_KN_keep : List (Nat × Instr × Nat) := [(0, .iload_n 1, 1), (1, .iconst 0, 1), (2, .iconst 1, 1), (3, .invokestatic 76, 3), (6, .ifCond .ne 5, 3), (9, .iconst (-1), 1), (10, .ireturn, 1), (11, .aload_n 0, 1), (12, .getfield 30, 3), (15, .iload_n 1, 1), (16, .aaload, 1), (17, .aload_n 0, 1), (18, .getfield 19, 3), (21, .invokevirtual 265, 3), (24, .aload_n 0, 1), (25, .getfield 34, 3), (28, .iload_n 1, 1), (29, .iconst 1, 1), (30, .bastore, 1), (31, .aload_n 0, 1), (32, .getfield 19, 3), (35, .invokevirtual 125, 3), (38, .ireturn, 1)]
set_option maxRecDepth 100000 in
theorem kc_KN_keep : ∀ q ∈ k_KN_keep, decode cX6_keep q.1 = .ok (q.2.1, q.2.2) := by decide +kernel
def k_KN_back : List (Nat × Instr × Nat) := [(0, .iload_n 1, 1), (1, .iconst 0, 1), (2, .iconst 1, 1), (3, .invokestatic 76, 3), (6, .ifCond .ne 5, 3), (9, .iconst (-1), 1), (10, .ireturn, 1), (11, .aload_n 0, 1), (12, .getfield 34, 3), (15, .iload_n 1, 1), (16, .baload, 1), (17, .ifCond .ne 6, 3), (20, .bipush (-2), 2), (22, .ireturn, 1), (23, .aload_n 0, 1), (24, .getfield 19, 3), (27, .aload_n 0, 1), (28, .getfield 30, 3), (31, .iload_n 1, 1), (32, .aaload, 1), (33, .invokevirtual 265, 3), (36, .aload_n 0, 1), (37, .getfield 26, 3), (40, .invokevirtual 99, 3), (43, .aload_n 0, 1), (44, .getfield 19, 3), (47, .invokevirtual 125, 3), (50, .ireturn, 1)]
set_option maxRecDepth 100000 in
theorem kc_KN_back : ∀ q ∈ k_KN_back, decode cX6_back q.1 = .ok (q.2.1, q.2.2) := by decide +kernel
def k_KN_count : List (Nat × Instr × Nat) := [(0, .iload_n 1, 1), (1, .lookupswitch 43 #[(0, 27), (1, 35)], 27), (28, .aload_n 0, 1), (29, .getfield 19, 3), (32, .getfield 102, 3), (35, .ireturn, 1), (36, .aload_n 0, 1), (37, .getfield 10, 3), (40, .getfield 84, 3), (43, .ireturn, 1), (44, .iconst (-1), 1), (45, .ireturn, 1)]
set_option maxRecDepth 100000 in
theorem kc_KN_count : ∀ q ∈ k_KN_count, decode cX6_count q.1 = .ok (q.2.1, q.2.2) := by decide +kernel
def k_KN_trace : List (Nat × Instr × Nat) := [(0, .aload_n 0, 1), (1, .getfield 72, 3), (4, .lreturn, 1)]
set_option maxRecDepth 100000 in
theorem kc_KN_trace : ∀ q ∈ k_KN_trace, decode cX6_trace q.1 = .ok (q.2.1, q.2.2) := by decide +kernel
def k_KN_asHerder : List (Nat × Instr × Nat) := [(0, .aload_n 0, 1), (1, .dup, 1), (2, .getfield 72, 3), (5, .lconst 1, 1), (6, .ladd, 1), (7, .putfield 72, 3), (10, .aload_n 0, 1), (11, .getfield 19, 3), (14, .iload_n 1, 1), (15, .invokevirtual 108, 3), (18, .getfield 143, 3), (21, .ireturn, 1)]
set_option maxRecDepth 100000 in
theorem kc_KN_asHerder : ∀ q ∈ k_KN_asHerder, decode cX6_asHerder q.1 = .ok (q.2.1, q.2.2) := by decide +kernel
def k_KN_asChief : List (Nat × Instr × Nat) := [(0, .aload_n 0, 1), (1, .dup, 1), (2, .getfield 72, 3), (5, .ldc2_w 267, 3), (8, .ladd, 1), (9, .putfield 72, 3), (12, .aload_n 0, 1), (13, .getfield 19, 3), (16, .iload_n 1, 1), (17, .invokevirtual 108, 3), (20, .astore_n 2, 1), (21, .aload_n 0, 1), (22, .iload_n 1, 1), (23, .invokevirtual 247, 3), (26, .aload_n 2, 1), (27, .getfield 143, 3), (30, .ifCond .ne 7, 3), (33, .iconst 0, 1), (34, .goto 7, 3), (37, .aload_n 2, 1), (38, .invokevirtual 144, 3), (41, .iadd, 1), (42, .ireturn, 1)]
set_option maxRecDepth 100000 in
theorem kc_KN_asChief : ∀ q ∈ k_KN_asChief, decode cX6_asChief q.1 = .ok (q.2.1, q.2.2) := by decide +kernel
def k_KN_asLiar : List (Nat × Instr × Nat) := [(0, .aload_n 0, 1), (1, .dup, 1), (2, .getfield 72, 3), (5, .ldc2_w 269, 3), (8, .ladd, 1), (9, .putfield 72, 3), (12, .aload_n 0, 1), (13, .iload_n 1, 1), (14, .invokevirtual 247, 3), (17, .aload_n 0, 1), (18, .getfield 19, 3), (21, .iload_n 1, 1), (22, .invokevirtual 165, 3), (25, .invokestatic 232, 3), (28, .isub, 1), (29, .ireturn, 1)]
set_option maxRecDepth 100000 in
theorem kc_KN_asLiar : ∀ q ∈ k_KN_asLiar, decode cX6_asLiar q.1 = .ok (q.2.1, q.2.2) := by decide +kernel
def k_KN_asFist : List (Nat × Instr × Nat) := [(0, .aload_n 0, 1), (1, .dup, 1), (2, .getfield 72, 3), (5, .ldc2_w 271, 3), (8, .ladd, 1), (9, .putfield 72, 3), (12, .iconst 2, 1), (13, .aload_n 0, 1), (14, .iload_n 1, 1), (15, .invokevirtual 250, 3), (18, .imul, 1), (19, .ireturn, 1)]
set_option maxRecDepth 100000 in
theorem kc_KN_asFist : ∀ q ∈ k_KN_asFist, decode cX6_asFist q.1 = .ok (q.2.1, q.2.2) := by decide +kernel
def k_KN_asThief : List (Nat × Instr × Nat) := [(0, .aload_n 0, 1), (1, .dup, 1), (2, .getfield 72, 3), (5, .ldc2_w 273, 3), (8, .ladd, 1), (9, .putfield 72, 3), (12, .aload_n 0, 1), (13, .iload_n 1, 1), (14, .invokevirtual 253, 3), (17, .iload_n 1, 1), (18, .iadd, 1), (19, .ireturn, 1)]
set_option maxRecDepth 100000 in
theorem kc_KN_asThief : ∀ q ∈ k_KN_asThief, decode cX6_asThief q.1 = .ok (q.2.1, q.2.2) := by decide +kernel
def k_KN_asWidow : List (Nat × Instr × Nat) := [(0, .aload_n 0, 1), (1, .dup, 1), (2, .getfield 72, 3), (5, .ldc2_w 275, 3), (8, .ladd, 1), (9, .putfield 72, 3), (12, .aload_n 0, 1), (13, .iload_n 1, 1), (14, .invokevirtual 247, 3), (17, .aload_n 0, 1), (18, .getfield 19, 3), (21, .iload_n 1, 1), (22, .invokevirtual 108, 3), (25, .invokevirtual 177, 3), (28, .iadd, 1), (29, .ireturn, 1)]
set_option maxRecDepth 100000 in
theorem kc_KN_asWidow : ∀ q ∈ k_KN_asWidow, decode cX6_asWidow q.1 = .ok (q.2.1, q.2.2) := by decide +kernel
def k_KN_isWithin : List (Nat × Instr × Nat) := [(0, .iload_n 0, 1), (1, .iload_n 1, 1), (2, .if_icmp .lt 12, 3), (5, .iload_n 0, 1), (6, .iload_n 2, 1), (7, .if_icmp .gt 7, 3), (10, .iconst 1, 1), (11, .goto 4, 3), (14, .iconst 0, 1), (15, .ireturn, 1)]
set_option maxRecDepth 100000 in
theorem kc_KN_isWithin : ∀ q ∈ k_KN_isWithin, decode cX6_isWithin q.1 = .ok (q.2.1, q.2.2) := by decide +kernel
def k_KN_isTurn : List (Nat × Instr × Nat) := [(0, .iload_n 0, 1), (1, .iconst 0, 1), (2, .iconst 5, 1), (3, .invokestatic 76, 3), (6, .ireturn, 1)]
set_option maxRecDepth 100000 in
theorem kc_KN_isTurn : ∀ q ∈ k_KN_isTurn, decode cX6_isTurn q.1 = .ok (q.2.1, q.2.2) := by decide +kernel
def k_KN_undoing : List (Nat × Instr × Nat) := [(0, .iload_n 0, 1), (1, .iconst 1, 1), (2, .ixor, 1), (3, .ireturn, 1)]
set_option maxRecDepth 100000 in
theorem kc_KN_undoing : ∀ q ∈ k_KN_undoing, decode cX6_undoing q.1 = .ok (q.2.1, q.2.2) := by decide +kernel
def k_KN_lengthOrTurn : List (Nat × Instr × Nat) := [(0, .iload_n 1, 1), (1, .iconst (-1), 1), (2, .if_icmp .ne 8, 3), (5, .aload_n 0, 1), (6, .getfield 143, 3), (9, .ireturn, 1), (10, .iload_n 1, 1), (11, .iconst 0, 1), (12, .aload_n 0, 1), (13, .getfield 143, 3), (16, .iconst 1, 1), (17, .isub, 1), (18, .invokestatic 76, 3), (21, .ifCond .eq 11, 3), (24, .aload_n 0, 1), (25, .iload_n 1, 1), (26, .invokevirtual 189, 3), (29, .goto 4, 3), (32, .iconst (-1), 1), (33, .ireturn, 1)]
set_option maxRecDepth 100000 in
theorem kc_KN_lengthOrTurn : ∀ q ∈ k_KN_lengthOrTurn, decode cX6_lengthOrTurn q.1 = .ok (q.2.1, q.2.2) := by decide +kernel
def k_KN_takenFor : List (Nat × Instr × Nat) := [(0, .iload_n 0, 1), (1, .iload_n 1, 1), (2, .if_icmp .ne 8, 3), (5, .bipush 10, 2), (7, .iload_n 2, 1), (8, .isub, 1), (9, .ireturn, 1), (10, .iload_n 1, 1), (11, .iload_n 0, 1), (12, .iconst 1, 1), (13, .iadd, 1), (14, .bipush 6, 2), (16, .irem, 1), (17, .if_icmp .ne 7, 3), (20, .iload_n 2, 1), (21, .goto 4, 3), (24, .iconst 0, 1), (25, .ireturn, 1)]
set_option maxRecDepth 100000 in
theorem kc_KN_takenFor : ∀ q ∈ k_KN_takenFor, decode cX6_takenFor q.1 = .ok (q.2.1, q.2.2) := by decide +kernel
def k_KN_power : List (Nat × Instr × Nat) := [(0, .lconst 1, 1), (1, .lstore_n 2, 1), (2, .iconst 0, 1), (3, .istore 4, 2), (5, .iload 4, 2), (7, .iload_n 1, 1), (8, .if_icmp .ge 14, 3), (11, .lload_n 2, 1), (12, .iload_n 0, 1), (13, .i2l, 1), (14, .lmul, 1), (15, .lstore_n 2, 1), (16, .iinc 4 1, 3), (19, .goto (-14), 3), (22, .lload_n 2, 1), (23, .lreturn, 1)]
set_option maxRecDepth 100000 in
theorem kc_KN_power : ∀ q ∈ k_KN_power, decode cX6_power q.1 = .ok (q.2.1, q.2.2) := by decide +kernel
def k_KN_leastTerms : List (Nat × Instr × Nat) := [(0, .lconst 1, 1), (1, .lload_n 0, 1), (2, .lload_n 2, 1), (3, .invokestatic 277, 3), (6, .invokestatic 281, 3), (9, .lstore 5, 2), (11, .iload 4, 2), (13, .ifCond .ne 10, 3), (16, .lload_n 0, 1), (17, .lload 5, 2), (19, .ldiv, 1), (20, .goto 7, 3), (23, .lload_n 2, 1), (24, .lload 5, 2), (26, .ldiv, 1), (27, .lreturn, 1)]
set_option maxRecDepth 100000 in
theorem kc_KN_leastTerms : ∀ q ∈ k_KN_leastTerms, decode cX6_leastTerms q.1 = .ok (q.2.1, q.2.2) := by decide +kernel
def k_KN_commonDivisor : List (Nat × Instr × Nat) := [(0, .iconst 0, 1), (1, .istore 4, 2), (3, .iload 4, 2), (5, .sipush 128, 3), (8, .if_icmp .ge 25, 3), (11, .lload_n 2, 1), (12, .lconst 0, 1), (13, .lcmp, 1), (14, .ifCond .eq 19, 3), (17, .lload_n 0, 1), (18, .lload_n 2, 1), (19, .lrem, 1), (20, .lstore 5, 2), (22, .lload_n 2, 1), (23, .lstore_n 0, 1), (24, .lload 5, 2), (26, .lstore_n 2, 1), (27, .iinc 4 1, 3), (30, .goto (-27), 3), (33, .lload_n 0, 1), (34, .lreturn, 1)]
set_option maxRecDepth 100000 in
theorem kc_KN_commonDivisor : ∀ q ∈ k_KN_commonDivisor, decode cX6_commonDivisor q.1 = .ok (q.2.1, q.2.2) := by decide +kernel
def k_KN_mostPairs : List (Nat × Instr × Nat) := [(0, .aload_n 1, 1), (1, .getfield 143, 3), (4, .bipush 12, 2), (6, .invokestatic 283, 3), (9, .istore_n 2, 1), (10, .iload_n 2, 1), (11, .istore_n 3, 1), (12, .iload_n 3, 1), (13, .ifCond .lt 52, 3), (16, .aload_n 0, 1), (17, .getfield 69, 3), (20, .iload_n 3, 1), (21, .aaload, 1), (22, .iload_n 3, 1), (23, .iconst 0, 1), (24, .iastore, 1), (25, .iload_n 3, 1), (26, .iconst 1, 1), (27, .iadd, 1), (28, .istore 4, 2), (30, .iload 4, 2), (32, .iload_n 2, 1), (33, .if_icmp .gt 26, 3), (36, .aload_n 0, 1), (37, .getfield 69, 3), (40, .iload_n 3, 1), (41, .aaload, 1), (42, .iload 4, 2), (44, .aload_n 0, 1), (45, .aload_n 1, 1), (46, .iload_n 3, 1), (47, .iload 4, 2), (49, .invokevirtual 286, 3), (52, .iastore, 1), (53, .iinc 4 1, 3), (56, .goto (-26), 3), (59, .iinc 3 (-1), 3), (62, .goto (-50), 3), (65, .aload_n 0, 1), (66, .getfield 69, 3), (69, .iconst 0, 1), (70, .aaload, 1), (71, .iload_n 2, 1), (72, .iaload, 1), (73, .ireturn, 1)]
set_option maxRecDepth 100000 in
theorem kc_KN_mostPairs : ∀ q ∈ k_KN_mostPairs, decode cX6_mostPairs q.1 = .ok (q.2.1, q.2.2) := by decide +kernel
def k_KN_mostPairsWithin : List (Nat × Instr × Nat) := [(0, .aload_n 0, 1), (1, .getfield 69, 3), (4, .iload_n 2, 1), (5, .iconst 1, 1), (6, .iadd, 1), (7, .aaload, 1), (8, .iload_n 3, 1), (9, .iaload, 1), (10, .istore 4, 2), (12, .iload_n 2, 1), (13, .iconst 1, 1), (14, .iadd, 1), (15, .istore 5, 2), (17, .iload 5, 2), (19, .iload_n 3, 1), (20, .if_icmp .ge 58, 3), (23, .aload_n 1, 1), (24, .iload 5, 2), (26, .invokevirtual 189, 3), (29, .aload_n 1, 1), (30, .iload_n 2, 1), (31, .invokevirtual 189, 3), (34, .invokestatic 290, 3), (37, .if_icmp .ne 35, 3), (40, .iload 4, 2), (42, .iconst 1, 1), (43, .aload_n 0, 1), (44, .getfield 69, 3), (47, .iload_n 2, 1), (48, .iconst 1, 1), (49, .iadd, 1), (50, .aaload, 1), (51, .iload 5, 2), (53, .iaload, 1), (54, .iadd, 1), (55, .aload_n 0, 1), (56, .getfield 69, 3), (59, .iload 5, 2), (61, .iconst 1, 1), (62, .iadd, 1), (63, .aaload, 1), (64, .iload_n 3, 1), (65, .iaload, 1), (66, .iadd, 1), (67, .invokestatic 242, 3), (70, .istore 4, 2), (72, .iinc 5 1, 3), (75, .goto (-58), 3), (78, .iload 4, 2), (80, .ireturn, 1)]
set_option maxRecDepth 100000 in
theorem kc_KN_mostPairsWithin : ∀ q ∈ k_KN_mostPairsWithin, decode cX6_mostPairsWithin q.1 = .ok (q.2.1, q.2.2) := by decide +kernel
def k_MD_init : List (Nat × Instr × Nat) := [(0, .aload_n 0, 1), (1, .invokespecial 1, 3), (4, .aload_n 0, 1), (5, .bipush 91, 2), (7, .newarray .int, 2), (9, .putfield 7, 3), (12, .aload_n 0, 1), (13, .sipush 910, 3), (16, .newarray .int, 2), (18, .putfield 13, 3), (21, .aload_n 0, 1), (22, .sipush 182, 3), (25, .newarray .int, 2), (27, .putfield 16, 3), (30, .aload_n 0, 1), (31, .iconst 2, 1), (32, .newarray .boolean, 2), (34, .putfield 19, 3), (37, .aload_n 0, 1), (38, .sipush 200, 3), (41, .newarray .int, 2), (43, .putfield 23, 3), (46, .aload_n 0, 1), (47, .bipush 72, 2), (49, .newarray .int, 2), (51, .putfield 26, 3), (54, .aload_n 0, 1), (55, .bipush 91, 2), (57, .newarray .int, 2), (59, .putfield 29, 3), (62, .aload_n 0, 1), (63, .bipush 72, 2), (65, .newarray .int, 2), (67, .putfield 32, 3), (70, .aload_n 0, 1), (71, .iconst 4, 1), (72, .newarray .int, 2), (74, .putfield 35, 3), (77, .aload_n 0, 1), (78, .sipush 169, 3), (81, .newarray .int, 2), (83, .putfield 38, 3), (86, .aload_n 0, 1), (87, .bipush 6, 2), (89, .newarray .int, 2), (91, .putfield 41, 3), (94, .aload_n 0, 1), (95, .bipush 12, 2), (97, .newarray .int, 2), (99, .putfield 44, 3), (102, .aload_n 0, 1), (103, .bipush 6, 2), (105, .newarray .int, 2), (107, .putfield 47, 3), (110, .return_, 1)]
set_option maxRecDepth 100000 in
theorem kc_MD_init : ∀ q ∈ k_MD_init, decode cX7_init q.1 = .ok (q.2.1, q.2.2) := by decide +kernel
def k_MD_in : List (Nat × Instr × Nat) := [(0, .lload_n 0, 1), (1, .lload_n 2, 1), (2, .lcmp, 1), (3, .ifCond .lt 14, 3), (6, .lload_n 0, 1), (7, .lload 4, 2), (9, .lcmp, 1), (10, .ifCond .gt 7, 3), (13, .iconst 1, 1), (14, .goto 4, 3), (17, .iconst 0, 1), (18, .ireturn, 1)]
set_option maxRecDepth 100000 in
theorem kc_MD_in : ∀ q ∈ k_MD_in, decode cX7_in q.1 = .ok (q.2.1, q.2.2) := by decide +kernel
def k_MD_isTwo : List (Nat × Instr × Nat) := [(0, .iload_n 0, 1), (1, .i2l, 1), (2, .lconst 0, 1), (3, .lconst 1, 1), (4, .invokestatic 50, 3), (7, .ireturn, 1)]
set_option maxRecDepth 100000 in
theorem kc_MD_isTwo : ∀ q ∈ k_MD_isTwo, decode cX7_isTwo q.1 = .ok (q.2.1, q.2.2) := by decide +kernel
def k_MD_isTurn : List (Nat × Instr × Nat) := [(0, .iload_n 0, 1), (1, .i2l, 1), (2, .lconst 0, 1), (3, .ldc2_w 54, 3), (6, .invokestatic 50, 3), (9, .ireturn, 1)]
set_option maxRecDepth 100000 in
theorem kc_MD_isTurn : ∀ q ∈ k_MD_isTurn, decode cX7_isTurn q.1 = .ok (q.2.1, q.2.2) := by decide +kernel
def k_MD_bits : List (Nat × Instr × Nat) := [(0, .iconst 0, 1), (1, .istore_n 1, 1), (2, .iload_n 0, 1), (3, .istore_n 2, 1), (4, .iload_n 2, 1), (5, .ifCond .eq 15, 3), (8, .iinc 1 1, 3), (11, .iload_n 2, 1), (12, .iload_n 2, 1), (13, .iconst 1, 1), (14, .isub, 1), (15, .iand, 1), (16, .istore_n 2, 1), (17, .goto (-13), 3), (20, .iload_n 1, 1), (21, .ireturn, 1)]
set_option maxRecDepth 100000 in
theorem kc_MD_bits : ∀ q ∈ k_MD_bits, decode cX7_bits q.1 = .ok (q.2.1, q.2.2) := by decide +kernel
def k_MD_tie : List (Nat × Instr × Nat) := [(0, .aload_n 0, 1), (1, .getfield 56, 3), (4, .ifCond .le 24, 3), (7, .aload_n 0, 1), (8, .getfield 26, 3), (11, .aload_n 0, 1), (12, .getfield 56, 3), (15, .iconst 1, 1), (16, .isub, 1), (17, .iaload, 1), (18, .iload_n 1, 1), (19, .iconst 1, 1), (20, .ixor, 1), (21, .if_icmp .ne 7, 3), (24, .iconst 1, 1), (25, .goto 4, 3), (28, .iconst 0, 1), (29, .istore_n 2, 1), (30, .iload_n 2, 1), (31, .ifCond .ne 13, 3), (34, .aload_n 0, 1), (35, .getfield 26, 3), (38, .aload_n 0, 1), (39, .getfield 56, 3), (42, .iload_n 1, 1), (43, .iastore, 1), (44, .aload_n 0, 1), (45, .dup, 1), (46, .getfield 56, 3), (49, .iload_n 2, 1), (50, .ifCond .eq 7, 3), (53, .iconst (-1), 1), (54, .goto 4, 3), (57, .iconst 1, 1), (58, .iadd, 1), (59, .putfield 56, 3), (62, .return_, 1)]
set_option maxRecDepth 100000 in
theorem kc_MD_tie : ∀ q ∈ k_MD_tie, decode cX7_tie q.1 = .ok (q.2.1, q.2.2) := by decide +kernel
def k_MD_tieRow : List (Nat × Instr × Nat) := [(0, .iconst 0, 1), (1, .istore_n 3, 1), (2, .iload_n 3, 1), (3, .iload_n 2, 1), (4, .if_icmp .ge 21, 3), (7, .aload_n 0, 1), (8, .aload_n 0, 1), (9, .getfield 7, 3), (12, .iload_n 1, 1), (13, .iload_n 3, 1), (14, .iadd, 1), (15, .iaload, 1), (16, .invokevirtual 60, 3), (19, .iinc 3 1, 3), (22, .goto (-20), 3), (25, .return_, 1)]
set_option maxRecDepth 100000 in
theorem kc_MD_tieRow : ∀ q ∈ k_MD_tieRow, decode cX7_tieRow q.1 = .ok (q.2.1, q.2.2) := by decide +kernel
def k_MD_tieName : List (Nat × Instr × Nat) := [(0, .aload_n 0, 1), (1, .bipush 19, 2), (3, .bipush 12, 2), (5, .iload_n 1, 1), (6, .imul, 1), (7, .iadd, 1), (8, .aload_n 0, 1), (9, .getfield 7, 3), (12, .bipush 13, 2), (14, .iload_n 1, 1), (15, .iadd, 1), (16, .iaload, 1), (17, .invokevirtual 64, 3), (20, .return_, 1)]
set_option maxRecDepth 100000 in
theorem kc_MD_tieName : ∀ q ∈ k_MD_tieName, decode cX7_tieName q.1 = .ok (q.2.1, q.2.2) := by decide +kernel
def k_MD_type : List (Nat × Instr × Nat) := [(0, .iload_n 1, 1), (1, .i2l, 1), (2, .lconst 0, 1), (3, .ldc2_w 68, 3), (6, .invokestatic 50, 3), (9, .ifCond .ne 5, 3), (12, .iconst (-1), 1), (13, .ireturn, 1), (14, .aload_n 0, 1), (15, .getfield 70, 3), (18, .sipush 200, 3), (21, .if_icmp .ne 6, 3), (24, .bipush (-3), 2), (26, .ireturn, 1), (27, .aload_n 0, 1), (28, .getfield 23, 3), (31, .aload_n 0, 1), (32, .getfield 70, 3), (35, .iload_n 1, 1), (36, .iastore, 1), (37, .aload_n 0, 1), (38, .dup, 1), (39, .getfield 70, 3), (42, .iconst 1, 1), (43, .iadd, 1), (44, .putfield 70, 3), (47, .aload_n 0, 1), (48, .getfield 70, 3), (51, .ireturn, 1)]
set_option maxRecDepth 100000 in
theorem kc_MD_type : ∀ q ∈ k_MD_type, decode cX7_type q.1 = .ok (q.2.1, q.2.2) := by decide +kernel
def k_MD_clear : List (Nat × Instr × Nat) := [(0, .aload_n 0, 1), (1, .getfield 70, 3), (4, .istore_n 1, 1), (5, .aload_n 0, 1), (6, .iconst 0, 1), (7, .putfield 70, 3), (10, .iload_n 1, 1), (11, .ireturn, 1)]
set_option maxRecDepth 100000 in
theorem kc_MD_clear : ∀ q ∈ k_MD_clear, decode cX7_clear q.1 = .ok (q.2.1, q.2.2) := by decide +kernel
def k_MD_turnOf : List (Nat × Instr × Nat) := [(0, .iload_n 0, 1), (1, .bipush 117, 2), (3, .if_icmp .ne 7, 3), (6, .iconst 0, 1), (7, .goto 54, 3), (10, .iload_n 0, 1), (11, .bipush 100, 2), (13, .if_icmp .ne 7, 3), (16, .iconst 1, 1), (17, .goto 44, 3), (20, .iload_n 0, 1), (21, .bipush 108, 2), (23, .if_icmp .ne 7, 3), (26, .iconst 2, 1), (27, .goto 34, 3), (30, .iload_n 0, 1), (31, .bipush 114, 2), (33, .if_icmp .ne 7, 3), (36, .iconst 3, 1), (37, .goto 24, 3), (40, .iload_n 0, 1), (41, .bipush 105, 2), (43, .if_icmp .ne 7, 3), (46, .iconst 4, 1), (47, .goto 14, 3), (50, .iload_n 0, 1), (51, .bipush 111, 2), (53, .if_icmp .ne 7, 3), (56, .iconst 5, 1), (57, .goto 4, 3), (60, .iconst (-1), 1), (61, .ireturn, 1)]
set_option maxRecDepth 100000 in
theorem kc_MD_turnOf : ∀ q ∈ k_MD_turnOf, decode cX7_turnOf q.1 = .ok (q.2.1, q.2.2) := by decide +kernel
def k_MD_ahead : List (Nat × Instr × Nat) := [(0, .aload_n 0, 1), (1, .getfield 73, 3), (4, .aload_n 0, 1), (5, .getfield 70, 3), (8, .if_icmp .ge 30, 3), (11, .aload_n 0, 1), (12, .getfield 23, 3), (15, .aload_n 0, 1), (16, .getfield 73, 3), (19, .iaload, 1), (20, .bipush 32, 2), (22, .if_icmp .ne 16, 3), (25, .aload_n 0, 1), (26, .dup, 1), (27, .getfield 73, 3), (30, .iconst 1, 1), (31, .iadd, 1), (32, .putfield 73, 3), (35, .goto (-35), 3), (38, .aload_n 0, 1), (39, .getfield 73, 3), (42, .aload_n 0, 1), (43, .getfield 70, 3), (46, .if_icmp .ge 15, 3), (49, .aload_n 0, 1), (50, .getfield 23, 3), (53, .aload_n 0, 1), (54, .getfield 73, 3), (57, .iaload, 1), (58, .goto 4, 3), (61, .iconst (-1), 1), (62, .ireturn, 1)]
set_option maxRecDepth 100000 in
theorem kc_MD_ahead : ∀ q ∈ k_MD_ahead, decode cX7_ahead q.1 = .ok (q.2.1, q.2.2) := by decide +kernel
def k_MD_takesHerder : List (Nat × Instr × Nat) := [(0, .aload_n 0, 1), (1, .invokevirtual 76, 3), (4, .bipush 104, 2), (6, .if_icmp .ne 9, 3), (9, .iload_n 1, 1), (10, .bipush 6, 2), (12, .if_icmp .ne 5, 3), (15, .iconst 0, 1), (16, .ireturn, 1), (17, .aload_n 0, 1), (18, .dup, 1), (19, .getfield 73, 3), (22, .iconst 1, 1), (23, .iadd, 1), (24, .putfield 73, 3), (27, .aload_n 0, 1), (28, .iconst 0, 1), (29, .putfield 56, 3), (32, .iconst 0, 1), (33, .istore_n 2, 1), (34, .aload_n 0, 1), (35, .invokevirtual 76, 3), (38, .invokestatic 80, 3), (41, .istore_n 3, 1), (42, .iload_n 3, 1), (43, .ifCond .lt 40, 3), (46, .iload_n 2, 1), (47, .bipush 8, 2), (49, .if_icmp .ne 5, 3), (52, .iconst 0, 1), (53, .ireturn, 1), (54, .iinc 2 1, 3), (57, .aload_n 0, 1), (58, .iload_n 3, 1), (59, .invokevirtual 60, 3), (62, .aload_n 0, 1), (63, .dup, 1), (64, .getfield 73, 3), (67, .iconst 1, 1), (68, .iadd, 1), (69, .putfield 73, 3), (72, .aload_n 0, 1), (73, .invokevirtual 76, 3), (76, .invokestatic 80, 3), (79, .istore_n 3, 1), (80, .goto (-38), 3), (83, .aload_n 0, 1), (84, .invokevirtual 76, 3), (87, .bipush 59, 2), (89, .if_icmp .eq 5, 3), (92, .iconst 0, 1), (93, .ireturn, 1), (94, .aload_n 0, 1), (95, .dup, 1), (96, .getfield 73, 3), (99, .iconst 1, 1), (100, .iadd, 1), (101, .putfield 73, 3), (104, .aload_n 0, 1), (105, .getfield 29, 3), (108, .bipush 13, 2), (110, .iload_n 1, 1), (111, .iadd, 1), (112, .aload_n 0, 1), (113, .getfield 56, 3), (116, .iastore, 1), (117, .iconst 0, 1), (118, .istore 4, 2), (120, .iload 4, 2), (122, .aload_n 0, 1), (123, .getfield 56, 3), (126, .if_icmp .ge 31, 3), (129, .aload_n 0, 1), (130, .getfield 29, 3), (133, .bipush 19, 2), (135, .bipush 12, 2), (137, .iload_n 1, 1), (138, .imul, 1), (139, .iadd, 1), (140, .iload 4, 2), (142, .iadd, 1), (143, .aload_n 0, 1), (144, .getfield 26, 3), (147, .iload 4, 2), (149, .iaload, 1), (150, .iastore, 1), (151, .iinc 4 1, 3), (154, .goto (-34), 3), (157, .iconst 1, 1), (158, .ireturn, 1)]
set_option maxRecDepth 100000 in
theorem kc_MD_takesHerder : ∀ q ∈ k_MD_takesHerder, decode cX7_takesHerder q.1 = .ok (q.2.1, q.2.2) := by decide +kernel
def k_MD_camp : List (Nat × Instr × Nat) := [(0, .iconst 0, 1), (1, .istore_n 1, 1), (2, .iload_n 1, 1), (3, .bipush 91, 2), (5, .if_icmp .ge 16, 3), (8, .aload_n 0, 1), (9, .getfield 29, 3), (12, .iload_n 1, 1), (13, .iconst 0, 1), (14, .iastore, 1), (15, .iinc 1 1, 3), (18, .goto (-16), 3), (21, .aload_n 0, 1), (22, .iconst 0, 1), (23, .putfield 73, 3), (26, .iconst 0, 1), (27, .istore_n 1, 1), (28, .aload_n 0, 1), (29, .invokevirtual 76, 3), (32, .ifCond .lt 25, 3), (35, .aload_n 0, 1), (36, .iload_n 1, 1), (37, .invokevirtual 84, 3), (40, .ifCond .ne 11, 3), (43, .bipush (-10), 2), (45, .aload_n 0, 1), (46, .getfield 73, 3), (49, .isub, 1), (50, .ireturn, 1), (51, .iinc 1 1, 3), (54, .goto (-26), 3), (57, .aload_n 0, 1), (58, .getfield 29, 3), (61, .iconst 0, 1), (62, .aload_n 0, 1), (63, .getfield 7, 3), (66, .iconst 0, 1), (67, .invokestatic 88, 3), (70, .aload_n 0, 1), (71, .iload_n 1, 1), (72, .putfield 92, 3), (75, .aload_n 0, 1), (76, .iconst 0, 1), (77, .putfield 70, 3), (80, .aload_n 0, 1), (81, .iconst 0, 1), (82, .putfield 95, 3), (85, .aload_n 0, 1), (86, .getfield 19, 3), (89, .iconst 0, 1), (90, .iconst 0, 1), (91, .bastore, 1), (92, .aload_n 0, 1), (93, .getfield 19, 3), (96, .iconst 1, 1), (97, .iconst 0, 1), (98, .bastore, 1), (99, .iload_n 1, 1), (100, .ireturn, 1)]
set_option maxRecDepth 100000 in
theorem kc_MD_camp : ∀ q ∈ k_MD_camp, decode cX7_camp q.1 = .ok (q.2.1, q.2.2) := by decide +kernel
def k_MD_copies : List (Nat × Instr × Nat) := [(0, .iconst 0, 1), (1, .istore 4, 2), (3, .iload 4, 2), (5, .bipush 91, 2), (7, .if_icmp .ge 21, 3), (10, .aload_n 2, 1), (11, .iload_n 3, 1), (12, .iload 4, 2), (14, .iadd, 1), (15, .aload_n 0, 1), (16, .iload_n 1, 1), (17, .iload 4, 2), (19, .iadd, 1), (20, .iaload, 1), (21, .iastore, 1), (22, .iinc 4 1, 3), (25, .goto (-22), 3), (28, .return_, 1)]
set_option maxRecDepth 100000 in
theorem kc_MD_copies : ∀ q ∈ k_MD_copies, decode cX7_copies q.1 = .ok (q.2.1, q.2.2) := by decide +kernel
def k_MD_isHerder : List (Nat × Instr × Nat) := [(0, .iload_n 1, 1), (1, .i2l, 1), (2, .lconst 0, 1), (3, .aload_n 0, 1), (4, .getfield 92, 3), (7, .iconst 1, 1), (8, .isub, 1), (9, .i2l, 1), (10, .invokestatic 50, 3), (13, .ireturn, 1)]
set_option maxRecDepth 100000 in
theorem kc_MD_isHerder : ∀ q ∈ k_MD_isHerder, decode cX7_isHerder q.1 = .ok (q.2.1, q.2.2) := by decide +kernel
def k_MD_name : List (Nat × Instr × Nat) := [(0, .aload_n 0, 1), (1, .iload_n 1, 1), (2, .invokevirtual 98, 3), (5, .ifCond .eq 26, 3), (8, .iload_n 2, 1), (9, .i2l, 1), (10, .ldc2_w 101, 3), (13, .aload_n 0, 1), (14, .getfield 7, 3), (17, .bipush 13, 2), (19, .iload_n 1, 1), (20, .iadd, 1), (21, .iaload, 1), (22, .iconst 1, 1), (23, .isub, 1), (24, .i2l, 1), (25, .invokestatic 50, 3), (28, .ifCond .ne 5, 3), (31, .iconst (-1), 1), (32, .ireturn, 1), (33, .iload_n 2, 1), (34, .ifCond .ge 15, 3), (37, .aload_n 0, 1), (38, .getfield 7, 3), (41, .bipush 13, 2), (43, .iload_n 1, 1), (44, .iadd, 1), (45, .iaload, 1), (46, .goto 17, 3), (49, .aload_n 0, 1), (50, .getfield 7, 3), (53, .bipush 19, 2), (55, .bipush 12, 2), (57, .iload_n 1, 1), (58, .imul, 1), (59, .iadd, 1), (60, .iload_n 2, 1), (61, .iadd, 1), (62, .iaload, 1), (63, .ireturn, 1)]
set_option maxRecDepth 100000 in
theorem kc_MD_name : ∀ q ∈ k_MD_name, decode cX7_name q.1 = .ok (q.2.1, q.2.2) := by decide +kernel
def k_MD_contract : List (Nat × Instr × Nat) := [(0, .iload_n 1, 1), (1, .i2l, 1), (2, .ldc2_w 101, 3), (5, .aload_n 0, 1), (6, .getfield 7, 3), (9, .iconst 0, 1), (10, .iaload, 1), (11, .iconst 1, 1), (12, .isub, 1), (13, .i2l, 1), (14, .invokestatic 50, 3), (17, .ifCond .ne 5, 3), (20, .iconst (-1), 1), (21, .ireturn, 1), (22, .iload_n 1, 1), (23, .ifCond .ge 12, 3), (26, .aload_n 0, 1), (27, .getfield 7, 3), (30, .iconst 0, 1), (31, .iaload, 1), (32, .goto 11, 3), (35, .aload_n 0, 1), (36, .getfield 7, 3), (39, .iconst 1, 1), (40, .iload_n 1, 1), (41, .iadd, 1), (42, .iaload, 1), (43, .ireturn, 1)]
set_option maxRecDepth 100000 in
theorem kc_MD_contract : ∀ q ∈ k_MD_contract, decode cX7_contract q.1 = .ok (q.2.1, q.2.2) := by decide +kernel
def k_MD_turnsOfAll : List (Nat × Instr × Nat) := [(0, .iconst 0, 1), (1, .istore_n 1, 1), (2, .iconst 0, 1), (3, .istore_n 2, 1), (4, .iload_n 2, 1), (5, .aload_n 0, 1), (6, .getfield 92, 3), (9, .if_icmp .ge 21, 3), (12, .iload_n 1, 1), (13, .aload_n 0, 1), (14, .getfield 7, 3), (17, .bipush 13, 2), (19, .iload_n 2, 1), (20, .iadd, 1), (21, .iaload, 1), (22, .iadd, 1), (23, .istore_n 1, 1), (24, .iinc 2 1, 3), (27, .goto (-23), 3), (30, .iload_n 1, 1), (31, .ireturn, 1)]
set_option maxRecDepth 100000 in
theorem kc_MD_turnsOfAll : ∀ q ∈ k_MD_turnsOfAll, decode cX7_turnsOfAll q.1 = .ok (q.2.1, q.2.2) := by decide +kernel
def k_MD_namesThere : List (Nat × Instr × Nat) := [(0, .iconst 0, 1), (1, .istore_n 1, 1), (2, .iconst 0, 1), (3, .istore_n 2, 1), (4, .iload_n 2, 1), (5, .aload_n 0, 1), (6, .getfield 92, 3), (9, .if_icmp .ge 33, 3), (12, .aload_n 0, 1), (13, .iload_n 2, 1), (14, .invokevirtual 103, 3), (17, .istore_n 3, 1), (18, .iload_n 1, 1), (19, .iload_n 3, 1), (20, .iconst 1, 1), (21, .iload_n 2, 1), (22, .ishl, 1), (23, .iconst 1, 1), (24, .isub, 1), (25, .iand, 1), (26, .ifCond .ne 7, 3), (29, .iconst 1, 1), (30, .goto 4, 3), (33, .iconst 0, 1), (34, .iadd, 1), (35, .istore_n 1, 1), (36, .iinc 2 1, 3), (39, .goto (-35), 3), (42, .iload_n 1, 1), (43, .ireturn, 1)]
set_option maxRecDepth 100000 in
theorem kc_MD_namesThere : ∀ q ∈ k_MD_namesThere, decode cX7_namesThere q.1 = .ok (q.2.1, q.2.2) := by decide +kernel
def k_MD_now : List (Nat × Instr × Nat) := [(0, .iload_n 1, 1), (1, .tableswitch 88 0 3 #[31, 73, 78, 83], 31), (32, .iconst 0, 1), (33, .istore_n 2, 1), (34, .iconst 0, 1), (35, .istore_n 3, 1), (36, .iload_n 3, 1), (37, .aload_n 0, 1), (38, .getfield 92, 3), (41, .if_icmp .ge 31, 3), (44, .iload_n 2, 1), (45, .aload_n 0, 1), (46, .getfield 7, 3), (49, .bipush 13, 2), (51, .iload_n 3, 1), (52, .iadd, 1), (53, .iaload, 1), (54, .ifCond .le 9, 3), (57, .iconst 1, 1), (58, .iload_n 3, 1), (59, .ishl, 1), (60, .goto 4, 3), (63, .iconst 0, 1), (64, .ior, 1), (65, .istore_n 2, 1), (66, .iinc 3 1, 3), (69, .goto (-33), 3), (72, .iload_n 2, 1), (73, .ireturn, 1), (74, .aload_n 0, 1), (75, .invokevirtual 106, 3), (78, .ireturn, 1), (79, .aload_n 0, 1), (80, .invokevirtual 109, 3), (83, .ireturn, 1), (84, .aload_n 0, 1), (85, .getfield 95, 3), (88, .ireturn, 1), (89, .iconst (-1), 1), (90, .ireturn, 1)]
set_option maxRecDepth 100000 in
theorem kc_MD_now : ∀ q ∈ k_MD_now, decode cX7_now q.1 = .ok (q.2.1, q.2.2) := by decide +kernel
def k_MD_remember : List (Nat × Instr × Nat) := [(0, .aload_n 0, 1), (1, .getfield 95, 3), (4, .bipush 10, 2), (6, .if_icmp .ne 43, 3), (9, .iconst 0, 1), (10, .istore_n 1, 1), (11, .iload_n 1, 1), (12, .sipush 819, 3), (15, .if_icmp .ge 24, 3), (18, .aload_n 0, 1), (19, .getfield 13, 3), (22, .iload_n 1, 1), (23, .aload_n 0, 1), (24, .getfield 13, 3), (27, .iload_n 1, 1), (28, .bipush 91, 2), (30, .iadd, 1), (31, .iaload, 1), (32, .iastore, 1), (33, .iinc 1 1, 3), (36, .goto (-25), 3), (39, .aload_n 0, 1), (40, .dup, 1), (41, .getfield 95, 3), (44, .iconst 1, 1), (45, .isub, 1), (46, .putfield 95, 3), (49, .aload_n 0, 1), (50, .getfield 7, 3), (53, .iconst 0, 1), (54, .aload_n 0, 1), (55, .getfield 13, 3), (58, .bipush 91, 2), (60, .aload_n 0, 1), (61, .getfield 95, 3), (64, .imul, 1), (65, .invokestatic 88, 3), (68, .aload_n 0, 1), (69, .dup, 1), (70, .getfield 95, 3), (73, .iconst 1, 1), (74, .iadd, 1), (75, .putfield 95, 3), (78, .return_, 1)]
set_option maxRecDepth 100000 in
theorem kc_MD_remember : ∀ q ∈ k_MD_remember, decode cX7_remember q.1 = .ok (q.2.1, q.2.2) := by decide +kernel
def k_MD_names : List (Nat × Instr × Nat) := [(0, .aload_n 0, 1), (1, .getfield 7, 3), (4, .bipush 13, 2), (6, .iload_n 1, 1), (7, .iadd, 1), (8, .aload_n 0, 1), (9, .getfield 56, 3), (12, .iastore, 1), (13, .iconst 0, 1), (14, .istore_n 2, 1), (15, .iload_n 2, 1), (16, .bipush 12, 2), (18, .if_icmp .ge 41, 3), (21, .aload_n 0, 1), (22, .getfield 7, 3), (25, .bipush 19, 2), (27, .bipush 12, 2), (29, .iload_n 1, 1), (30, .imul, 1), (31, .iadd, 1), (32, .iload_n 2, 1), (33, .iadd, 1), (34, .iload_n 2, 1), (35, .aload_n 0, 1), (36, .getfield 56, 3), (39, .if_icmp .ge 12, 3), (42, .aload_n 0, 1), (43, .getfield 26, 3), (46, .iload_n 2, 1), (47, .iaload, 1), (48, .goto 4, 3), (51, .iconst 0, 1), (52, .iastore, 1), (53, .iinc 2 1, 3), (56, .goto (-41), 3), (59, .return_, 1)]
set_option maxRecDepth 100000 in
theorem kc_MD_names : ∀ q ∈ k_MD_names, decode cX7_names q.1 = .ok (q.2.1, q.2.2) := by decide +kernel
def k_MD_ties : List (Nat × Instr × Nat) := [(0, .aload_n 0, 1), (1, .iload_n 1, 1), (2, .invokevirtual 98, 3), (5, .ifCond .eq 10, 3), (8, .iload_n 2, 1), (9, .invokestatic 112, 3), (12, .ifCond .ne 5, 3), (15, .iconst (-1), 1), (16, .ireturn, 1), (17, .aload_n 0, 1), (18, .iconst 0, 1), (19, .putfield 56, 3), (22, .aload_n 0, 1), (23, .iload_n 1, 1), (24, .invokevirtual 115, 3), (27, .aload_n 0, 1), (28, .iload_n 2, 1), (29, .invokevirtual 60, 3), (32, .aload_n 0, 1), (33, .getfield 56, 3), (36, .bipush 13, 2), (38, .if_icmp .ne 6, 3), (41, .bipush (-3), 2), (43, .ireturn, 1), (44, .aload_n 0, 1), (45, .invokevirtual 118, 3), (48, .aload_n 0, 1), (49, .iload_n 1, 1), (50, .invokevirtual 121, 3), (53, .aload_n 0, 1), (54, .getfield 56, 3), (57, .ireturn, 1)]
set_option maxRecDepth 100000 in
theorem kc_MD_ties : ∀ q ∈ k_MD_ties, decode cX7_ties q.1 = .ok (q.2.1, q.2.2) := by decide +kernel
def k_MD_loosens : List (Nat × Instr × Nat) := [(0, .aload_n 0, 1), (1, .iload_n 1, 1), (2, .invokevirtual 98, 3), (5, .ifCond .ne 5, 3), (8, .iconst (-1), 1), (9, .ireturn, 1), (10, .aload_n 0, 1), (11, .getfield 7, 3), (14, .bipush 13, 2), (16, .iload_n 1, 1), (17, .iadd, 1), (18, .iaload, 1), (19, .istore_n 2, 1), (20, .iload_n 2, 1), (21, .ifCond .ne 6, 3), (24, .bipush (-2), 2), (26, .ireturn, 1), (27, .aload_n 0, 1), (28, .invokevirtual 118, 3), (31, .aload_n 0, 1), (32, .getfield 7, 3), (35, .bipush 19, 2), (37, .bipush 12, 2), (39, .iload_n 1, 1), (40, .imul, 1), (41, .iadd, 1), (42, .iload_n 2, 1), (43, .iadd, 1), (44, .iconst 1, 1), (45, .isub, 1), (46, .iaload, 1), (47, .istore_n 3, 1), (48, .aload_n 0, 1), (49, .getfield 7, 3), (52, .bipush 19, 2), (54, .bipush 12, 2), (56, .iload_n 1, 1), (57, .imul, 1), (58, .iadd, 1), (59, .iload_n 2, 1), (60, .iadd, 1), (61, .iconst 1, 1), (62, .isub, 1), (63, .iconst 0, 1), (64, .iastore, 1), (65, .aload_n 0, 1), (66, .getfield 7, 3), (69, .bipush 13, 2), (71, .iload_n 1, 1), (72, .iadd, 1), (73, .dup2, 1), (74, .iaload, 1), (75, .iconst 1, 1), (76, .isub, 1), (77, .iastore, 1), (78, .iload_n 3, 1), (79, .ireturn, 1)]
set_option maxRecDepth 100000 in
theorem kc_MD_loosens : ∀ q ∈ k_MD_loosens, decode cX7_loosens q.1 = .ok (q.2.1, q.2.2) := by decide +kernel
def k_MD_bends : List (Nat × Instr × Nat) := [(0, .aload_n 0, 1), (1, .iload_n 1, 1), (2, .invokevirtual 98, 3), (5, .ifCond .eq 16, 3), (8, .aload_n 0, 1), (9, .iload_n 2, 1), (10, .invokevirtual 98, 3), (13, .ifCond .eq 8, 3), (16, .iload_n 1, 1), (17, .iload_n 2, 1), (18, .if_icmp .ne 5, 3), (21, .iconst (-1), 1), (22, .ireturn, 1), (23, .aload_n 0, 1), (24, .iconst 0, 1), (25, .putfield 56, 3), (28, .aload_n 0, 1), (29, .iload_n 2, 1), (30, .invokevirtual 115, 3), (33, .aload_n 0, 1), (34, .iload_n 1, 1), (35, .invokevirtual 115, 3), (38, .aload_n 0, 1), (39, .getfield 56, 3), (42, .istore_n 3, 1), (43, .iconst 0, 1), (44, .istore 4, 2), (46, .iload 4, 2), (48, .aload_n 0, 1), (49, .getfield 56, 3), (52, .if_icmp .ge 23, 3), (55, .aload_n 0, 1), (56, .getfield 32, 3), (59, .iload 4, 2), (61, .aload_n 0, 1), (62, .getfield 26, 3), (65, .iload 4, 2), (67, .iaload, 1), (68, .iastore, 1), (69, .iinc 4 1, 3), (72, .goto (-26), 3), (75, .aload_n 0, 1), (76, .iconst 0, 1), (77, .putfield 56, 3), (80, .aload_n 0, 1), (81, .iload_n 1, 1), (82, .invokevirtual 115, 3), (85, .aload_n 0, 1), (86, .iload_n 2, 1), (87, .invokevirtual 115, 3), (90, .aload_n 0, 1), (91, .getfield 56, 3), (94, .bipush 12, 2), (96, .if_icmp .gt 9, 3), (99, .iload_n 3, 1), (100, .bipush 12, 2), (102, .if_icmp .le 6, 3), (105, .bipush (-3), 2), (107, .ireturn, 1), (108, .aload_n 0, 1), (109, .invokevirtual 118, 3), (112, .aload_n 0, 1), (113, .iload_n 1, 1), (114, .invokevirtual 121, 3), (117, .aload_n 0, 1), (118, .iconst 0, 1), (119, .putfield 56, 3), (122, .iconst 0, 1), (123, .istore 4, 2), (125, .iload 4, 2), (127, .iload_n 3, 1), (128, .if_icmp .ge 20, 3), (131, .aload_n 0, 1), (132, .aload_n 0, 1), (133, .getfield 32, 3), (136, .iload 4, 2), (138, .iaload, 1), (139, .invokevirtual 60, 3), (142, .iinc 4 1, 3), (145, .goto (-20), 3), (148, .aload_n 0, 1), (149, .iload_n 2, 1), (150, .invokevirtual 121, 3), (153, .aload_n 0, 1), (154, .getfield 7, 3), (157, .bipush 13, 2), (159, .iload_n 1, 1), (160, .iadd, 1), (161, .iaload, 1), (162, .ireturn, 1)]
set_option maxRecDepth 100000 in
theorem kc_MD_bends : ∀ q ∈ k_MD_bends, decode cX7_bends q.1 = .ok (q.2.1, q.2.2) := by decide +kernel
def k_MD_unties : List (Nat × Instr × Nat) := [(0, .aload_n 0, 1), (1, .iload_n 1, 1), (2, .invokevirtual 98, 3), (5, .ifCond .ne 5, 3), (8, .iconst (-1), 1), (9, .ireturn, 1), (10, .aload_n 0, 1), (11, .invokevirtual 118, 3), (14, .aload_n 0, 1), (15, .getfield 7, 3), (18, .bipush 13, 2), (20, .iload_n 1, 1), (21, .iadd, 1), (22, .iaload, 1), (23, .istore_n 2, 1), (24, .aload_n 0, 1), (25, .iconst 0, 1), (26, .putfield 56, 3), (29, .aload_n 0, 1), (30, .iload_n 1, 1), (31, .invokevirtual 121, 3), (34, .iload_n 2, 1), (35, .ireturn, 1)]
set_option maxRecDepth 100000 in
theorem kc_MD_unties : ∀ q ∈ k_MD_unties, decode cX7_unties q.1 = .ok (q.2.1, q.2.2) := by decide +kernel
def k_MD_adds : List (Nat × Instr × Nat) := [(0, .iload_n 1, 1), (1, .invokestatic 112, 3), (4, .ifCond .ne 5, 3), (7, .iconst (-1), 1), (8, .ireturn, 1), (9, .aload_n 0, 1), (10, .getfield 7, 3), (13, .iconst 0, 1), (14, .iaload, 1), (15, .bipush 12, 2), (17, .if_icmp .ne 6, 3), (20, .bipush (-3), 2), (22, .ireturn, 1), (23, .aload_n 0, 1), (24, .invokevirtual 118, 3), (27, .aload_n 0, 1), (28, .getfield 7, 3), (31, .iconst 1, 1), (32, .aload_n 0, 1), (33, .getfield 7, 3), (36, .iconst 0, 1), (37, .iaload, 1), (38, .iadd, 1), (39, .iload_n 1, 1), (40, .iastore, 1), (41, .aload_n 0, 1), (42, .getfield 7, 3), (45, .iconst 0, 1), (46, .dup2, 1), (47, .iaload, 1), (48, .iconst 1, 1), (49, .iadd, 1), (50, .iastore, 1), (51, .aload_n 0, 1), (52, .getfield 7, 3), (55, .iconst 0, 1), (56, .iaload, 1), (57, .ireturn, 1)]
set_option maxRecDepth 100000 in
theorem kc_MD_adds : ∀ q ∈ k_MD_adds, decode cX7_adds q.1 = .ok (q.2.1, q.2.2) := by decide +kernel
def k_MD_tears : List (Nat × Instr × Nat) := [(0, .aload_n 0, 1), (1, .invokevirtual 118, 3), (4, .aload_n 0, 1), (5, .getfield 7, 3), (8, .iconst 0, 1), (9, .iaload, 1), (10, .istore_n 1, 1), (11, .aload_n 0, 1), (12, .getfield 7, 3), (15, .iconst 0, 1), (16, .iconst 0, 1), (17, .iastore, 1), (18, .iconst 0, 1), (19, .istore_n 2, 1), (20, .iload_n 2, 1), (21, .bipush 12, 2), (23, .if_icmp .ge 18, 3), (26, .aload_n 0, 1), (27, .getfield 7, 3), (30, .iconst 1, 1), (31, .iload_n 2, 1), (32, .iadd, 1), (33, .iconst 0, 1), (34, .iastore, 1), (35, .iinc 2 1, 3), (38, .goto (-18), 3), (41, .iload_n 1, 1), (42, .ireturn, 1)]
set_option maxRecDepth 100000 in
theorem kc_MD_tears : ∀ q ∈ k_MD_tears, decode cX7_tears q.1 = .ok (q.2.1, q.2.2) := by decide +kernel
def k_MD_undo : List (Nat × Instr × Nat) := [(0, .aload_n 0, 1), (1, .getfield 95, 3), (4, .ifCond .ne 6, 3), (7, .bipush (-2), 2), (9, .ireturn, 1), (10, .aload_n 0, 1), (11, .dup, 1), (12, .getfield 95, 3), (15, .iconst 1, 1), (16, .isub, 1), (17, .putfield 95, 3), (20, .aload_n 0, 1), (21, .getfield 13, 3), (24, .bipush 91, 2), (26, .aload_n 0, 1), (27, .getfield 95, 3), (30, .imul, 1), (31, .aload_n 0, 1), (32, .getfield 7, 3), (35, .iconst 0, 1), (36, .invokestatic 88, 3), (39, .aload_n 0, 1), (40, .getfield 95, 3), (43, .ireturn, 1)]
set_option maxRecDepth 100000 in
theorem kc_MD_undo : ∀ q ∈ k_MD_undo, decode cX7_undo q.1 = .ok (q.2.1, q.2.2) := by decide +kernel
def k_MD_turnAt : List (Nat × Instr × Nat) := [(0, .aload_n 0, 1), (1, .getfield 7, 3), (4, .bipush 19, 2), (6, .bipush 12, 2), (8, .iload_n 1, 1), (9, .imul, 1), (10, .iadd, 1), (11, .iload_n 2, 1), (12, .iadd, 1), (13, .iaload, 1), (14, .ireturn, 1)]
set_option maxRecDepth 100000 in
theorem kc_MD_turnAt : ∀ q ∈ k_MD_turnAt, decode cX7_turnAt q.1 = .ok (q.2.1, q.2.2) := by decide +kernel
def k_MD_unlike : List (Nat × Instr × Nat) := [(0, .aload_n 0, 1), (1, .getfield 7, 3), (4, .bipush 13, 2), (6, .iload_n 1, 1), (7, .iadd, 1), (8, .iaload, 1), (9, .aload_n 0, 1), (10, .getfield 7, 3), (13, .bipush 13, 2), (15, .iload_n 2, 1), (16, .iadd, 1), (17, .iaload, 1), (18, .if_icmp .eq 6, 3), (21, .ldc 124, 2), (23, .ireturn, 1), (24, .iconst 0, 1), (25, .istore_n 3, 1), (26, .iconst 0, 1), (27, .istore 4, 2), (29, .iload 4, 2), (31, .aload_n 0, 1), (32, .getfield 7, 3), (35, .bipush 13, 2), (37, .iload_n 1, 1), (38, .iadd, 1), (39, .iaload, 1), (40, .if_icmp .ge 34, 3), (43, .iload_n 3, 1), (44, .aload_n 0, 1), (45, .iload_n 1, 1), (46, .iload 4, 2), (48, .invokevirtual 125, 3), (51, .aload_n 0, 1), (52, .iload_n 2, 1), (53, .iload 4, 2), (55, .invokevirtual 125, 3), (58, .if_icmp .ne 7, 3), (61, .iconst 0, 1), (62, .goto 4, 3), (65, .iconst 1, 1), (66, .iadd, 1), (67, .istore_n 3, 1), (68, .iinc 4 1, 3), (71, .goto (-42), 3), (74, .iload_n 3, 1), (75, .ireturn, 1)]
set_option maxRecDepth 100000 in
theorem kc_MD_unlike : ∀ q ∈ k_MD_unlike, decode cX7_unlike q.1 = .ok (q.2.1, q.2.2) := by decide +kernel
def k_MD_nearTo : List (Nat × Instr × Nat) := [(0, .iconst 0, 1), (1, .istore_n 3, 1), (2, .iconst 0, 1), (3, .istore 4, 2), (5, .iload 4, 2), (7, .aload_n 0, 1), (8, .getfield 92, 3), (11, .if_icmp .ge 31, 3), (14, .iload_n 3, 1), (15, .aload_n 0, 1), (16, .iload_n 1, 1), (17, .iload 4, 2), (19, .invokevirtual 129, 3), (22, .iload_n 2, 1), (23, .if_icmp .gt 10, 3), (26, .iconst 1, 1), (27, .iload 4, 2), (29, .ishl, 1), (30, .goto 4, 3), (33, .iconst 0, 1), (34, .ior, 1), (35, .istore_n 3, 1), (36, .iinc 4 1, 3), (39, .goto (-34), 3), (42, .iload_n 3, 1), (43, .ireturn, 1)]
set_option maxRecDepth 100000 in
theorem kc_MD_nearTo : ∀ q ∈ k_MD_nearTo, decode cX7_nearTo q.1 = .ok (q.2.1, q.2.2) := by decide +kernel
def k_MD_alikeOf : List (Nat × Instr × Nat) := [(0, .aload_n 0, 1), (1, .iload_n 1, 1), (2, .iconst 0, 1), (3, .invokevirtual 132, 3), (6, .ireturn, 1)]
set_option maxRecDepth 100000 in
theorem kc_MD_alikeOf : ∀ q ∈ k_MD_alikeOf, decode cX7_alikeOf q.1 = .ok (q.2.1, q.2.2) := by decide +kernel
def k_MD_alike : List (Nat × Instr × Nat) := [(0, .aload_n 0, 1), (1, .iload_n 1, 1), (2, .invokevirtual 98, 3), (5, .ifCond .eq 11, 3), (8, .aload_n 0, 1), (9, .iload_n 1, 1), (10, .invokevirtual 103, 3), (13, .goto 4, 3), (16, .iconst (-1), 1), (17, .ireturn, 1)]
set_option maxRecDepth 100000 in
theorem kc_MD_alike : ∀ q ∈ k_MD_alike, decode cX7_alike q.1 = .ok (q.2.1, q.2.2) := by decide +kernel
def k_MD_ends : List (Nat × Instr × Nat) := [(0, .iconst 0, 1), (1, .istore_n 2, 1), (2, .aload_n 0, 1), (3, .getfield 7, 3), (6, .bipush 13, 2), (8, .iload_n 1, 1), (9, .iadd, 1), (10, .iaload, 1), (11, .iconst 1, 1), (12, .isub, 1), (13, .istore_n 3, 1), (14, .iload_n 2, 1), (15, .iload_n 3, 1), (16, .iload_n 2, 1), (17, .isub, 1), (18, .if_icmp .ge 28, 3), (21, .aload_n 0, 1), (22, .iload_n 1, 1), (23, .iload_n 2, 1), (24, .invokevirtual 125, 3), (27, .aload_n 0, 1), (28, .iload_n 1, 1), (29, .iload_n 3, 1), (30, .iload_n 2, 1), (31, .isub, 1), (32, .invokevirtual 125, 3), (35, .iconst 1, 1), (36, .ixor, 1), (37, .if_icmp .ne 9, 3), (40, .iinc 2 1, 3), (43, .goto (-29), 3), (46, .iload_n 2, 1), (47, .ireturn, 1)]
set_option maxRecDepth 100000 in
theorem kc_MD_ends : ∀ q ∈ k_MD_ends, decode cX7_ends q.1 = .ok (q.2.1, q.2.2) := by decide +kernel
def k_MD_isRing : List (Nat × Instr × Nat) := [(0, .aload_n 0, 1), (1, .iload_n 1, 1), (2, .invokevirtual 135, 3), (5, .istore_n 3, 1), (6, .aload_n 0, 1), (7, .iload_n 2, 1), (8, .invokevirtual 135, 3), (11, .istore 4, 2), (13, .aload_n 0, 1), (14, .getfield 7, 3), (17, .bipush 13, 2), (19, .iload_n 1, 1), (20, .iadd, 1), (21, .iaload, 1), (22, .iconst 2, 1), (23, .iload_n 3, 1), (24, .imul, 1), (25, .isub, 1), (26, .istore 5, 2), (28, .iload 5, 2), (30, .aload_n 0, 1), (31, .getfield 7, 3), (34, .bipush 13, 2), (36, .iload_n 2, 1), (37, .iadd, 1), (38, .iaload, 1), (39, .iconst 2, 1), (40, .iload 4, 2), (42, .imul, 1), (43, .isub, 1), (44, .if_icmp .eq 5, 3), (47, .iconst 0, 1), (48, .ireturn, 1), (49, .iload 5, 2), (51, .ifCond .ne 7, 3), (54, .iconst 1, 1), (55, .goto 4, 3), (58, .iconst 0, 1), (59, .istore 6, 2), (61, .iconst 0, 1), (62, .istore 7, 2), (64, .iload 7, 2), (66, .iload 5, 2), (68, .if_icmp .ge 73, 3), (71, .iload 6, 2), (73, .ifCond .ne 68, 3), (76, .iconst 1, 1), (77, .istore 6, 2), (79, .iconst 0, 1), (80, .istore 8, 2), (82, .iload 8, 2), (84, .iload 5, 2), (86, .if_icmp .ge 49, 3), (89, .iload 6, 2), (91, .ifCond .eq 35, 3), (94, .aload_n 0, 1), (95, .iload_n 1, 1), (96, .iload_n 3, 1), (97, .iload 8, 2), (99, .iadd, 1), (100, .invokevirtual 125, 3), (103, .aload_n 0, 1), (104, .iload_n 2, 1), (105, .iload 4, 2), (107, .iload 7, 2), (109, .iload 8, 2), (111, .iadd, 1), (112, .iload 5, 2), (114, .irem, 1), (115, .iadd, 1), (116, .invokevirtual 125, 3), (119, .if_icmp .ne 7, 3), (122, .iconst 1, 1), (123, .goto 4, 3), (126, .iconst 0, 1), (127, .istore 6, 2), (129, .iinc 8 1, 3), (132, .goto (-50), 3), (135, .iinc 7 1, 3), (138, .goto (-74), 3), (141, .iload 6, 2), (143, .ireturn, 1)]
set_option maxRecDepth 100000 in
theorem kc_MD_isRing : ∀ q ∈ k_MD_isRing, decode cX7_isRing q.1 = .ok (q.2.1, q.2.2) := by decide +kernel
def k_MD_ring : List (Nat × Instr × Nat) := [(0, .aload_n 0, 1), (1, .iload_n 1, 1), (2, .invokevirtual 98, 3), (5, .ifCond .ne 5, 3), (8, .iconst (-1), 1), (9, .ireturn, 1), (10, .iconst 0, 1), (11, .istore_n 2, 1), (12, .iconst 0, 1), (13, .istore_n 3, 1), (14, .iload_n 3, 1), (15, .aload_n 0, 1), (16, .getfield 92, 3), (19, .if_icmp .ge 28, 3), (22, .iload_n 2, 1), (23, .aload_n 0, 1), (24, .iload_n 1, 1), (25, .iload_n 3, 1), (26, .invokevirtual 138, 3), (29, .ifCond .eq 9, 3), (32, .iconst 1, 1), (33, .iload_n 3, 1), (34, .ishl, 1), (35, .goto 4, 3), (38, .iconst 0, 1), (39, .ior, 1), (40, .istore_n 2, 1), (41, .iinc 3 1, 3), (44, .goto (-30), 3), (47, .iload_n 2, 1), (48, .ireturn, 1)]
set_option maxRecDepth 100000 in
theorem kc_MD_ring : ∀ q ∈ k_MD_ring, decode cX7_ring q.1 = .ok (q.2.1, q.2.2) := by decide +kernel
def k_MD_way : List (Nat × Instr × Nat) := [(0, .aload_n 0, 1), (1, .iload_n 1, 1), (2, .invokevirtual 98, 3), (5, .ifCond .eq 11, 3), (8, .aload_n 0, 1), (9, .iload_n 2, 1), (10, .invokevirtual 98, 3), (13, .ifCond .ne 5, 3), (16, .iconst (-1), 1), (17, .ireturn, 1), (18, .iconst 0, 1), (19, .istore_n 3, 1), (20, .iload_n 3, 1), (21, .aload_n 0, 1), (22, .getfield 7, 3), (25, .bipush 13, 2), (27, .iload_n 1, 1), (28, .iadd, 1), (29, .iaload, 1), (30, .if_icmp .ge 37, 3), (33, .iload_n 3, 1), (34, .aload_n 0, 1), (35, .getfield 7, 3), (38, .bipush 13, 2), (40, .iload_n 2, 1), (41, .iadd, 1), (42, .iaload, 1), (43, .if_icmp .ge 24, 3), (46, .aload_n 0, 1), (47, .iload_n 1, 1), (48, .iload_n 3, 1), (49, .invokevirtual 125, 3), (52, .aload_n 0, 1), (53, .iload_n 2, 1), (54, .iload_n 3, 1), (55, .invokevirtual 125, 3), (58, .if_icmp .ne 9, 3), (61, .iinc 3 1, 3), (64, .goto (-44), 3), (67, .aload_n 0, 1), (68, .getfield 7, 3), (71, .bipush 13, 2), (73, .iload_n 1, 1), (74, .iadd, 1), (75, .iaload, 1), (76, .aload_n 0, 1), (77, .getfield 7, 3), (80, .bipush 13, 2), (82, .iload_n 2, 1), (83, .iadd, 1), (84, .iaload, 1), (85, .iadd, 1), (86, .iconst 2, 1), (87, .iload_n 3, 1), (88, .imul, 1), (89, .isub, 1), (90, .ireturn, 1)]
set_option maxRecDepth 100000 in
theorem kc_MD_way : ∀ q ∈ k_MD_way, decode cX7_way q.1 = .ok (q.2.1, q.2.2) := by decide +kernel
def k_MD_rootOf : List (Nat × Instr × Nat) := [(0, .aload_n 0, 1), (1, .getfield 7, 3), (4, .bipush 13, 2), (6, .iload_n 1, 1), (7, .iadd, 1), (8, .iaload, 1), (9, .istore_n 2, 1), (10, .iconst 1, 1), (11, .istore_n 3, 1), (12, .iload_n 3, 1), (13, .iload_n 2, 1), (14, .if_icmp .gt 75, 3), (17, .iload_n 2, 1), (18, .iload_n 3, 1), (19, .irem, 1), (20, .ifCond .ne 7, 3), (23, .iconst 1, 1), (24, .goto 4, 3), (27, .iconst 0, 1), (28, .istore 4, 2), (30, .iload_n 3, 1), (31, .istore 5, 2), (33, .iload 5, 2), (35, .iload_n 2, 1), (36, .if_icmp .ge 40, 3), (39, .iload 4, 2), (41, .ifCond .eq 26, 3), (44, .aload_n 0, 1), (45, .iload_n 1, 1), (46, .iload 5, 2), (48, .invokevirtual 125, 3), (51, .aload_n 0, 1), (52, .iload_n 1, 1), (53, .iload 5, 2), (55, .iload_n 3, 1), (56, .isub, 1), (57, .invokevirtual 125, 3), (60, .if_icmp .ne 7, 3), (63, .iconst 1, 1), (64, .goto 4, 3), (67, .iconst 0, 1), (68, .istore 4, 2), (70, .iinc 5 1, 3), (73, .goto (-40), 3), (76, .iload 4, 2), (78, .ifCond .eq 5, 3), (81, .iload_n 3, 1), (82, .ireturn, 1), (83, .iinc 3 1, 3), (86, .goto (-74), 3), (89, .iconst 0, 1), (90, .ireturn, 1)]
set_option maxRecDepth 100000 in
theorem kc_MD_rootOf : ∀ q ∈ k_MD_rootOf, decode cX7_rootOf q.1 = .ok (q.2.1, q.2.2) := by decide +kernel
def k_MD_root : List (Nat × Instr × Nat) := [(0, .aload_n 0, 1), (1, .iload_n 1, 1), (2, .invokevirtual 98, 3), (5, .ifCond .eq 11, 3), (8, .aload_n 0, 1), (9, .iload_n 1, 1), (10, .invokevirtual 142, 3), (13, .goto 4, 3), (16, .iconst (-1), 1), (17, .ireturn, 1)]
set_option maxRecDepth 100000 in
theorem kc_MD_root : ∀ q ∈ k_MD_root, decode cX7_root q.1 = .ok (q.2.1, q.2.2) := by decide +kernel
def k_MD_isAhead : List (Nat × Instr × Nat) := [(0, .aload_n 0, 1), (1, .getfield 7, 3), (4, .bipush 13, 2), (6, .iload_n 1, 1), (7, .iadd, 1), (8, .iaload, 1), (9, .aload_n 0, 1), (10, .getfield 7, 3), (13, .bipush 13, 2), (15, .iload_n 2, 1), (16, .iadd, 1), (17, .iaload, 1), (18, .if_icmp .eq 30, 3), (21, .aload_n 0, 1), (22, .getfield 7, 3), (25, .bipush 13, 2), (27, .iload_n 1, 1), (28, .iadd, 1), (29, .iaload, 1), (30, .aload_n 0, 1), (31, .getfield 7, 3), (34, .bipush 13, 2), (36, .iload_n 2, 1), (37, .iadd, 1), (38, .iaload, 1), (39, .if_icmp .ge 7, 3), (42, .iconst 1, 1), (43, .goto 4, 3), (46, .iconst 0, 1), (47, .ireturn, 1), (48, .iconst 0, 1), (49, .istore_n 3, 1), (50, .iload_n 3, 1), (51, .aload_n 0, 1), (52, .getfield 7, 3), (55, .bipush 13, 2), (57, .iload_n 1, 1), (58, .iadd, 1), (59, .iaload, 1), (60, .if_icmp .ge 45, 3), (63, .aload_n 0, 1), (64, .iload_n 1, 1), (65, .iload_n 3, 1), (66, .invokevirtual 125, 3), (69, .aload_n 0, 1), (70, .iload_n 2, 1), (71, .iload_n 3, 1), (72, .invokevirtual 125, 3), (75, .if_icmp .eq 24, 3), (78, .aload_n 0, 1), (79, .iload_n 1, 1), (80, .iload_n 3, 1), (81, .invokevirtual 125, 3), (84, .aload_n 0, 1), (85, .iload_n 2, 1), (86, .iload_n 3, 1), (87, .invokevirtual 125, 3), (90, .if_icmp .ge 7, 3), (93, .iconst 1, 1), (94, .goto 4, 3), (97, .iconst 0, 1), (98, .ireturn, 1), (99, .iinc 3 1, 3), (102, .goto (-52), 3), (105, .iload_n 1, 1), (106, .iload_n 2, 1), (107, .if_icmp .ge 7, 3), (110, .iconst 1, 1), (111, .goto 4, 3), (114, .iconst 0, 1), (115, .ireturn, 1)]
set_option maxRecDepth 100000 in
theorem kc_MD_isAhead : ∀ q ∈ k_MD_isAhead, decode cX7_isAhead q.1 = .ok (q.2.1, q.2.2) := by decide +kernel
def k_MD_order : List (Nat × Instr × Nat) := [(0, .aload_n 0, 1), (1, .iload_n 1, 1), (2, .invokevirtual 98, 3), (5, .ifCond .ne 5, 3), (8, .iconst (-1), 1), (9, .ireturn, 1), (10, .iconst 0, 1), (11, .istore_n 2, 1), (12, .iconst 0, 1), (13, .istore_n 3, 1), (14, .iload_n 3, 1), (15, .aload_n 0, 1), (16, .getfield 92, 3), (19, .if_icmp .ge 26, 3), (22, .iload_n 2, 1), (23, .aload_n 0, 1), (24, .iload_n 3, 1), (25, .iload_n 1, 1), (26, .invokevirtual 145, 3), (29, .ifCond .eq 7, 3), (32, .iconst 1, 1), (33, .goto 4, 3), (36, .iconst 0, 1), (37, .iadd, 1), (38, .istore_n 2, 1), (39, .iinc 3 1, 3), (42, .goto (-28), 3), (45, .iload_n 2, 1), (46, .ireturn, 1)]
set_option maxRecDepth 100000 in
theorem kc_MD_order : ∀ q ∈ k_MD_order, decode cX7_order q.1 = .ok (q.2.1, q.2.2) := by decide +kernel
def k_MD_least : List (Nat × Instr × Nat) := [(0, .lload_n 0, 1), (1, .lstore 5, 2), (3, .lload_n 2, 1), (4, .lstore 7, 2), (6, .lload 7, 2), (8, .lconst 0, 1), (9, .lcmp, 1), (10, .ifCond .eq 21, 3), (13, .lload 5, 2), (15, .lload 7, 2), (17, .lrem, 1), (18, .lstore 9, 2), (20, .lload 7, 2), (22, .lstore 5, 2), (24, .lload 9, 2), (26, .lstore 7, 2), (28, .goto (-22), 3), (31, .iload 4, 2), (33, .ifCond .ne 10, 3), (36, .lload_n 0, 1), (37, .lload 5, 2), (39, .ldiv, 1), (40, .goto 7, 3), (43, .lload_n 2, 1), (44, .lload 5, 2), (46, .ldiv, 1), (47, .lreturn, 1)]
set_option maxRecDepth 100000 in
theorem kc_MD_least : ∀ q ∈ k_MD_least, decode cX7_least q.1 = .ok (q.2.1, q.2.2) := by decide +kernel
def k_MD_cold : List (Nat × Instr × Nat) := [(0, .aload_n 0, 1), (1, .iload_n 1, 1), (2, .invokevirtual 98, 3), (5, .ifCond .eq 31, 3), (8, .aload_n 0, 1), (9, .iload_n 2, 1), (10, .invokevirtual 98, 3), (13, .ifCond .eq 23, 3), (16, .iload_n 3, 1), (17, .i2l, 1), (18, .lconst 0, 1), (19, .ldc2_w 148, 3), (22, .invokestatic 50, 3), (25, .ifCond .eq 11, 3), (28, .iload 4, 2), (30, .invokestatic 150, 3), (33, .ifCond .ne 7, 3), (36, .ldc2_w 101, 3), (39, .lreturn, 1), (40, .aload_n 0, 1), (41, .getfield 7, 3), (44, .bipush 13, 2), (46, .iload_n 1, 1), (47, .iadd, 1), (48, .iaload, 1), (49, .aload_n 0, 1), (50, .getfield 7, 3), (53, .bipush 13, 2), (55, .iload_n 2, 1), (56, .iadd, 1), (57, .iaload, 1), (58, .if_icmp .ne 7, 3), (61, .lconst 1, 1), (62, .goto 4, 3), (65, .lconst 0, 1), (66, .lstore 5, 2), (68, .lconst 1, 1), (69, .lstore 7, 2), (71, .iconst 0, 1), (72, .istore 9, 2), (74, .iload 9, 2), (76, .aload_n 0, 1), (77, .getfield 7, 3), (80, .bipush 13, 2), (82, .iload_n 1, 1), (83, .iadd, 1), (84, .iaload, 1), (85, .if_icmp .ge 73, 3), (88, .aload_n 0, 1), (89, .iload_n 1, 1), (90, .iload 9, 2), (92, .invokevirtual 125, 3), (95, .istore 10, 2), (97, .aload_n 0, 1), (98, .iload_n 2, 1), (99, .iload 9, 2), (101, .invokevirtual 125, 3), (104, .istore 11, 2), (106, .lload 5, 2), (108, .iload 11, 2), (110, .iload 10, 2), (112, .if_icmp .ne 11, 3), (115, .bipush 10, 2), (117, .iload_n 3, 1), (118, .isub, 1), (119, .i2l, 1), (120, .goto 21, 3), (123, .iload 11, 2), (125, .iload 10, 2), (127, .iconst 1, 1), (128, .iadd, 1), (129, .bipush 6, 2), (131, .irem, 1), (132, .if_icmp .ne 8, 3), (135, .iload_n 3, 1), (136, .i2l, 1), (137, .goto 4, 3), (140, .lconst 0, 1), (141, .lmul, 1), (142, .lstore 5, 2), (144, .lload 7, 2), (146, .ldc2_w 148, 3), (149, .lmul, 1), (150, .lstore 7, 2), (152, .iinc 9 1, 3), (155, .goto (-81), 3), (158, .lload 5, 2), (160, .lload 7, 2), (162, .iload 4, 2), (164, .invokestatic 153, 3), (167, .lreturn, 1)]
set_option maxRecDepth 100000 in
theorem kc_MD_cold : ∀ q ∈ k_MD_cold, decode cX7_cold q.1 = .ok (q.2.1, q.2.2) := by decide +kernel
def k_MD_mixed : List (Nat × Instr × Nat) := [(0, .aload_n 0, 1), (1, .iload_n 1, 1), (2, .invokevirtual 98, 3), (5, .ifCond .eq 24, 3), (8, .iload_n 2, 1), (9, .i2l, 1), (10, .lconst 0, 1), (11, .ldc2_w 157, 3), (14, .invokestatic 50, 3), (17, .ifCond .eq 12, 3), (20, .aload_n 0, 1), (21, .iload_n 1, 1), (22, .iload_n 2, 1), (23, .invokevirtual 132, 3), (26, .goto 4, 3), (29, .iconst (-1), 1), (30, .ireturn, 1)]
set_option maxRecDepth 100000 in
theorem kc_MD_mixed : ∀ q ∈ k_MD_mixed, decode cX7_mixed q.1 = .ok (q.2.1, q.2.2) := by decide +kernel
def k_MD_isNew : List (Nat × Instr × Nat) := [(0, .iload_n 3, 1), (1, .istore 4, 2), (3, .iload_n 1, 1), (4, .iconst 1, 1), (5, .isub, 1), (6, .istore 5, 2), (8, .iload 5, 2), (10, .ifCond .lt 28, 3), (13, .aload_n 0, 1), (14, .getfield 35, 3), (17, .iload 5, 2), (19, .iload 4, 2), (21, .bipush 6, 2), (23, .irem, 1), (24, .iastore, 1), (25, .iload 4, 2), (27, .bipush 6, 2), (29, .idiv, 1), (30, .istore 4, 2), (32, .iinc 5 (-1), 3), (35, .goto (-27), 3), (38, .iconst 1, 1), (39, .istore 5, 2), (41, .iconst 1, 1), (42, .istore 6, 2), (44, .iload 6, 2), (46, .iload_n 1, 1), (47, .if_icmp .ge 42, 3), (50, .iload 5, 2), (52, .ifCond .eq 28, 3), (55, .aload_n 0, 1), (56, .getfield 35, 3), (59, .iload 6, 2), (61, .iaload, 1), (62, .aload_n 0, 1), (63, .getfield 35, 3), (66, .iload 6, 2), (68, .iconst 1, 1), (69, .isub, 1), (70, .iaload, 1), (71, .iconst 1, 1), (72, .ixor, 1), (73, .if_icmp .eq 7, 3), (76, .iconst 1, 1), (77, .goto 4, 3), (80, .iconst 0, 1), (81, .istore 5, 2), (83, .iinc 6 1, 3), (86, .goto (-42), 3), (89, .iconst 0, 1), (90, .istore 6, 2), (92, .iload 6, 2), (94, .aload_n 0, 1), (95, .getfield 92, 3), (98, .if_icmp .ge 101, 3), (101, .iload 5, 2), (103, .ifCond .eq 96, 3), (106, .iconst 0, 1), (107, .istore 7, 2), (109, .iconst 0, 1), (110, .istore 8, 2), (112, .iload 8, 2), (114, .iload_n 1, 1), (115, .if_icmp .ge 51, 3), (118, .aload_n 0, 1), (119, .getfield 7, 3), (122, .bipush 13, 2), (124, .iload 6, 2), (126, .iadd, 1), (127, .iaload, 1), (128, .iload_n 1, 1), (129, .if_icmp .ne 37, 3), (132, .iload 7, 2), (134, .aload_n 0, 1), (135, .iload 6, 2), (137, .iload 8, 2), (139, .invokevirtual 125, 3), (142, .aload_n 0, 1), (143, .getfield 35, 3), (146, .iload 8, 2), (148, .iaload, 1), (149, .if_icmp .ne 7, 3), (152, .iconst 0, 1), (153, .goto 4, 3), (156, .iconst 1, 1), (157, .iadd, 1), (158, .istore 7, 2), (160, .iinc 8 1, 3), (163, .goto (-51), 3), (166, .aload_n 0, 1), (167, .getfield 7, 3), (170, .bipush 13, 2), (172, .iload 6, 2), (174, .iadd, 1), (175, .iaload, 1), (176, .iload_n 1, 1), (177, .if_icmp .ne 9, 3), (180, .iload 7, 2), (182, .iload_n 2, 1), (183, .if_icmp .lt 7, 3), (186, .iconst 1, 1), (187, .goto 4, 3), (190, .iconst 0, 1), (191, .istore 5, 2), (193, .iinc 6 1, 3), (196, .goto (-104), 3), (199, .iload 5, 2), (201, .ireturn, 1)]
set_option maxRecDepth 100000 in
theorem kc_MD_isNew : ∀ q ∈ k_MD_isNew, decode cX7_isNew q.1 = .ok (q.2.1, q.2.2) := by decide +kernel
def k_MD_newName : List (Nat × Instr × Nat) := [(0, .iload_n 1, 1), (1, .i2l, 1), (2, .lconst 1, 1), (3, .ldc2_w 159, 3), (6, .invokestatic 50, 3), (9, .ifCond .eq 30, 3), (12, .iload_n 2, 1), (13, .i2l, 1), (14, .lconst 1, 1), (15, .ldc2_w 159, 3), (18, .invokestatic 50, 3), (21, .ifCond .eq 18, 3), (24, .iload_n 3, 1), (25, .i2l, 1), (26, .ldc2_w 101, 3), (29, .iload_n 1, 1), (30, .iconst 1, 1), (31, .isub, 1), (32, .i2l, 1), (33, .invokestatic 50, 3), (36, .ifCond .ne 5, 3), (39, .iconst (-1), 1), (40, .ireturn, 1), (41, .iconst 1, 1), (42, .istore 4, 2), (44, .iconst 0, 1), (45, .istore 5, 2), (47, .iload 5, 2), (49, .iload_n 1, 1), (50, .if_icmp .ge 16, 3), (53, .iload 4, 2), (55, .bipush 6, 2), (57, .imul, 1), (58, .istore 4, 2), (60, .iinc 5 1, 3), (63, .goto (-16), 3), (66, .iconst 0, 1), (67, .istore 5, 2), (69, .bipush (-9), 2), (71, .istore 6, 2), (73, .iload 4, 2), (75, .iconst 1, 1), (76, .isub, 1), (77, .istore 7, 2), (79, .iload 7, 2), (81, .ifCond .lt 48, 3), (84, .aload_n 0, 1), (85, .iload_n 1, 1), (86, .iload_n 2, 1), (87, .iload 7, 2), (89, .invokevirtual 161, 3), (92, .istore 8, 2), (94, .iload 5, 2), (96, .iload 8, 2), (98, .ifCond .eq 7, 3), (101, .iconst 1, 1), (102, .goto 4, 3), (105, .iconst 0, 1), (106, .iadd, 1), (107, .istore 5, 2), (109, .iload 8, 2), (111, .ifCond .eq 8, 3), (114, .iload 7, 2), (116, .goto 5, 3), (119, .iload 6, 2), (121, .istore 6, 2), (123, .iinc 7 (-1), 3), (126, .goto (-47), 3), (129, .iload_n 3, 1), (130, .ifCond .lt 10, 3), (133, .iload 6, 2), (135, .bipush (-9), 2), (137, .if_icmp .ne 15, 3), (140, .iload_n 3, 1), (141, .ifCond .ge 8, 3), (144, .iload 5, 2), (146, .goto 5, 3), (149, .bipush (-9), 2), (151, .ireturn, 1), (152, .aload_n 0, 1), (153, .iload_n 1, 1), (154, .iload_n 2, 1), (155, .iload 6, 2), (157, .invokevirtual 161, 3), (160, .istore 7, 2), (162, .iload 7, 2), (164, .ifCond .eq 12, 3), (167, .aload_n 0, 1), (168, .getfield 35, 3), (171, .iload_n 3, 1), (172, .iaload, 1), (173, .goto 5, 3), (176, .bipush (-9), 2), (178, .ireturn, 1)]
set_option maxRecDepth 100000 in
theorem kc_MD_newName : ∀ q ∈ k_MD_newName, decode cX7_newName q.1 = .ok (q.2.1, q.2.2) := by decide +kernel
def k_MD_mend : List (Nat × Instr × Nat) := [(0, .aload_n 0, 1), (1, .getfield 7, 3), (4, .iconst 0, 1), (5, .iaload, 1), (6, .istore_n 1, 1), (7, .iconst 0, 1), (8, .istore_n 2, 1), (9, .iload_n 2, 1), (10, .iload_n 1, 1), (11, .if_icmp .gt 174, 3), (14, .iconst 0, 1), (15, .istore_n 3, 1), (16, .iload_n 3, 1), (17, .iload_n 2, 1), (18, .iadd, 1), (19, .iload_n 1, 1), (20, .if_icmp .gt 159, 3), (23, .iload_n 3, 1), (24, .iload_n 2, 1), (25, .iadd, 1), (26, .istore 4, 2), (28, .iload_n 2, 1), (29, .iconst 2, 1), (30, .if_icmp .ge 7, 3), (33, .iconst 0, 1), (34, .goto 17, 3), (37, .aload_n 0, 1), (38, .getfield 38, 3), (41, .bipush 13, 2), (43, .iload_n 3, 1), (44, .iconst 1, 1), (45, .iadd, 1), (46, .imul, 1), (47, .iload 4, 2), (49, .iadd, 1), (50, .iaload, 1), (51, .istore 5, 2), (53, .iload_n 3, 1), (54, .iconst 1, 1), (55, .iadd, 1), (56, .istore 6, 2), (58, .iload 6, 2), (60, .iload 4, 2), (62, .if_icmp .ge 97, 3), (65, .aload_n 0, 1), (66, .getfield 7, 3), (69, .iconst 1, 1), (70, .iload 6, 2), (72, .iadd, 1), (73, .iaload, 1), (74, .aload_n 0, 1), (75, .getfield 7, 3), (78, .iconst 1, 1), (79, .iload_n 3, 1), (80, .iadd, 1), (81, .iaload, 1), (82, .iconst 1, 1), (83, .ixor, 1), (84, .if_icmp .ne 7, 3), (87, .iconst 1, 1), (88, .goto 4, 3), (91, .iconst 0, 1), (92, .istore 7, 2), (94, .iload 7, 2), (96, .ifCond .eq 38, 3), (99, .iconst 1, 1), (100, .aload_n 0, 1), (101, .getfield 38, 3), (104, .bipush 13, 2), (106, .iload_n 3, 1), (107, .iconst 1, 1), (108, .iadd, 1), (109, .imul, 1), (110, .iload 6, 2), (112, .iadd, 1), (113, .iaload, 1), (114, .iadd, 1), (115, .aload_n 0, 1), (116, .getfield 38, 3), (119, .bipush 13, 2), (121, .iload 6, 2), (123, .iconst 1, 1), (124, .iadd, 1), (125, .imul, 1), (126, .iload 4, 2), (128, .iadd, 1), (129, .iaload, 1), (130, .iadd, 1), (131, .goto 4, 3), (134, .iconst 0, 1), (135, .istore 8, 2), (137, .iload 8, 2), (139, .iload 5, 2), (141, .if_icmp .le 8, 3), (144, .iload 8, 2), (146, .goto 5, 3), (149, .iload 5, 2), (151, .istore 5, 2), (153, .iinc 6 1, 3), (156, .goto (-98), 3), (159, .aload_n 0, 1), (160, .getfield 38, 3), (163, .bipush 13, 2), (165, .iload_n 3, 1), (166, .imul, 1), (167, .iload 4, 2), (169, .iadd, 1), (170, .iload 5, 2), (172, .iastore, 1), (173, .iinc 3 1, 3), (176, .goto (-160), 3), (179, .iinc 2 1, 3), (182, .goto (-173), 3), (185, .iload_n 1, 1), (186, .iconst 2, 1), (187, .aload_n 0, 1), (188, .getfield 38, 3), (191, .iload_n 1, 1), (192, .iaload, 1), (193, .imul, 1), (194, .isub, 1), (195, .ireturn, 1)]
set_option maxRecDepth 100000 in
theorem kc_MD_mend : ∀ q ∈ k_MD_mend, decode cX7_mend q.1 = .ok (q.2.1, q.2.2) := by decide +kernel
def k_MD_tieContract : List (Nat × Instr × Nat) := [(0, .aload_n 0, 1), (1, .iconst 0, 1), (2, .putfield 56, 3), (5, .aload_n 0, 1), (6, .iconst 1, 1), (7, .aload_n 0, 1), (8, .getfield 7, 3), (11, .iconst 0, 1), (12, .iaload, 1), (13, .invokevirtual 64, 3), (16, .return_, 1)]
set_option maxRecDepth 100000 in
theorem kc_MD_tieContract : ∀ q ∈ k_MD_tieContract, decode cX7_tieContract q.1 = .ok (q.2.1, q.2.2) := by decide +kernel
def k_MD_pulls : List (Nat × Instr × Nat) := [(0, .iload_n 1, 1), (1, .i2l, 1), (2, .lconst 0, 1), (3, .ldc2_w 165, 3), (6, .invokestatic 50, 3), (9, .ifCond .ne 5, 3), (12, .iconst (-1), 1), (13, .ireturn, 1), (14, .aload_n 0, 1), (15, .invokevirtual 167, 3), (18, .iload_n 1, 1), (19, .ifCond .ne 18, 3), (22, .aload_n 0, 1), (23, .getfield 56, 3), (26, .ifCond .ne 7, 3), (29, .iconst 1, 1), (30, .goto 44, 3), (33, .iconst 0, 1), (34, .goto 40, 3), (37, .iload_n 1, 1), (38, .iconst 1, 1), (39, .if_icmp .ne 10, 3), (42, .aload_n 0, 1), (43, .getfield 56, 3), (46, .goto 28, 3), (49, .iload_n 1, 1), (50, .iconst 2, 1), (51, .if_icmp .ne 10, 3), (54, .aload_n 0, 1), (55, .invokevirtual 170, 3), (58, .goto 16, 3), (61, .aload_n 0, 1), (62, .getfield 7, 3), (65, .iconst 0, 1), (66, .iaload, 1), (67, .aload_n 0, 1), (68, .getfield 56, 3), (71, .isub, 1), (72, .iconst 2, 1), (73, .idiv, 1), (74, .ireturn, 1)]
set_option maxRecDepth 100000 in
theorem kc_MD_pulls : ∀ q ∈ k_MD_pulls, decode cX7_pulls q.1 = .ok (q.2.1, q.2.2) := by decide +kernel
def k_MD_isLife : List (Nat × Instr × Nat) := [(0, .iload_n 2, 1), (1, .istore_n 3, 1), (2, .iconst 0, 1), (3, .istore 4, 2), (5, .iload_n 1, 1), (6, .iconst 1, 1), (7, .isub, 1), (8, .istore 5, 2), (10, .iload 5, 2), (12, .ifCond .lt 57, 3), (15, .aload_n 0, 1), (16, .getfield 41, 3), (19, .iload 5, 2), (21, .iload_n 3, 1), (22, .bipush 6, 2), (24, .irem, 1), (25, .iastore, 1), (26, .iload_n 3, 1), (27, .bipush 6, 2), (29, .idiv, 1), (30, .istore_n 3, 1), (31, .iload 4, 2), (33, .aload_n 0, 1), (34, .aload_n 0, 1), (35, .getfield 41, 3), (38, .iload 5, 2), (40, .iaload, 1), (41, .invokevirtual 98, 3), (44, .ifCond .eq 15, 3), (47, .iconst 1, 1), (48, .aload_n 0, 1), (49, .getfield 41, 3), (52, .iload 5, 2), (54, .iaload, 1), (55, .ishl, 1), (56, .goto 4, 3), (59, .iconst 0, 1), (60, .ior, 1), (61, .istore 4, 2), (63, .iinc 5 (-1), 3), (66, .goto (-56), 3), (69, .iload 4, 2), (71, .invokestatic 173, 3), (74, .iload_n 1, 1), (75, .if_icmp .eq 5, 3), (78, .iconst 0, 1), (79, .ireturn, 1), (80, .aload_n 0, 1), (81, .iconst 0, 1), (82, .putfield 56, 3), (85, .iconst 0, 1), (86, .istore 5, 2), (88, .iload 5, 2), (90, .iload_n 1, 1), (91, .if_icmp .ge 20, 3), (94, .aload_n 0, 1), (95, .aload_n 0, 1), (96, .getfield 41, 3), (99, .iload 5, 2), (101, .iaload, 1), (102, .invokevirtual 115, 3), (105, .iinc 5 1, 3), (108, .goto (-20), 3), (111, .aload_n 0, 1), (112, .getfield 56, 3), (115, .aload_n 0, 1), (116, .getfield 176, 3), (119, .if_icmp .ne 7, 3), (122, .iconst 1, 1), (123, .goto 4, 3), (126, .iconst 0, 1), (127, .istore 5, 2), (129, .iconst 0, 1), (130, .istore 6, 2), (132, .iload 6, 2), (134, .aload_n 0, 1), (135, .getfield 56, 3), (138, .if_icmp .ge 38, 3), (141, .iload 5, 2), (143, .ifCond .eq 33, 3), (146, .aload_n 0, 1), (147, .getfield 26, 3), (150, .iload 6, 2), (152, .iaload, 1), (153, .aload_n 0, 1), (154, .getfield 44, 3), (157, .iload 6, 2), (159, .iaload, 1), (160, .if_icmp .ne 7, 3), (163, .iconst 1, 1), (164, .goto 4, 3), (167, .iconst 0, 1), (168, .istore 5, 2), (170, .iinc 6 1, 3), (173, .goto (-41), 3), (176, .iload 5, 2), (178, .ireturn, 1)]
set_option maxRecDepth 100000 in
theorem kc_MD_isLife : ∀ q ∈ k_MD_isLife, decode cX7_isLife q.1 = .ok (q.2.1, q.2.2) := by decide +kernel
def k_MD_layContract : List (Nat × Instr × Nat) := [(0, .aload_n 0, 1), (1, .invokevirtual 167, 3), (4, .aload_n 0, 1), (5, .aload_n 0, 1), (6, .getfield 56, 3), (9, .putfield 176, 3), (12, .iconst 0, 1), (13, .istore_n 1, 1), (14, .iload_n 1, 1), (15, .aload_n 0, 1), (16, .getfield 56, 3), (19, .if_icmp .ge 21, 3), (22, .aload_n 0, 1), (23, .getfield 44, 3), (26, .iload_n 1, 1), (27, .aload_n 0, 1), (28, .getfield 26, 3), (31, .iload_n 1, 1), (32, .iaload, 1), (33, .iastore, 1), (34, .iinc 1 1, 3), (37, .goto (-23), 3), (40, .return_, 1)]
set_option maxRecDepth 100000 in
theorem kc_MD_layContract : ∀ q ∈ k_MD_layContract, decode cX7_layContract q.1 = .ok (q.2.1, q.2.2) := by decide +kernel
def k_MD_lives : List (Nat × Instr × Nat) := [(0, .iload_n 1, 1), (1, .iconst (-1), 1), (2, .if_icmp .ge 5, 3), (5, .iconst (-1), 1), (6, .ireturn, 1), (7, .aload_n 0, 1), (8, .invokevirtual 179, 3), (11, .iconst 0, 1), (12, .istore_n 2, 1), (13, .bipush (-9), 2), (15, .istore_n 3, 1), (16, .iconst 0, 1), (17, .istore 4, 2), (19, .iconst 1, 1), (20, .istore 5, 2), (22, .iconst 1, 1), (23, .istore 6, 2), (25, .iload 6, 2), (27, .aload_n 0, 1), (28, .getfield 92, 3), (31, .if_icmp .gt 74, 3), (34, .iload 5, 2), (36, .bipush 6, 2), (38, .imul, 1), (39, .istore 5, 2), (41, .iconst 0, 1), (42, .istore 7, 2), (44, .iload 7, 2), (46, .iload 5, 2), (48, .if_icmp .ge 51, 3), (51, .aload_n 0, 1), (52, .iload 6, 2), (54, .iload 7, 2), (56, .invokevirtual 182, 3), (59, .ifCond .eq 34, 3), (62, .iload_n 3, 1), (63, .bipush (-9), 2), (65, .if_icmp .ne 8, 3), (68, .iload 6, 2), (70, .goto 5, 3), (73, .iload 4, 2), (75, .istore 4, 2), (77, .iload_n 3, 1), (78, .bipush (-9), 2), (80, .if_icmp .ne 8, 3), (83, .iload 7, 2), (85, .goto 4, 3), (88, .iload_n 3, 1), (89, .istore_n 3, 1), (90, .iinc 2 1, 3), (93, .iinc 7 1, 3), (96, .goto (-52), 3), (99, .iinc 6 1, 3), (102, .goto (-77), 3), (105, .iload_n 1, 1), (106, .ifCond .ge 5, 3), (109, .iload_n 2, 1), (110, .ireturn, 1), (111, .iload_n 3, 1), (112, .bipush (-9), 2), (114, .if_icmp .ne 6, 3), (117, .bipush (-9), 2), (119, .ireturn, 1), (120, .aload_n 0, 1), (121, .iload 4, 2), (123, .iload_n 3, 1), (124, .invokevirtual 182, 3), (127, .istore 6, 2), (129, .iload 6, 2), (131, .ifCond .eq 18, 3), (134, .iload_n 1, 1), (135, .iload 4, 2), (137, .if_icmp .ge 12, 3), (140, .aload_n 0, 1), (141, .getfield 41, 3), (144, .iload_n 1, 1), (145, .iaload, 1), (146, .goto 5, 3), (149, .bipush (-5), 2), (151, .ireturn, 1)]
set_option maxRecDepth 100000 in
theorem kc_MD_lives : ∀ q ∈ k_MD_lives, decode cX7_lives q.1 = .ok (q.2.1, q.2.2) := by decide +kernel
def k_MD_next : List (Nat × Instr × Nat) := [(0, .aload_n 0, 1), (1, .invokevirtual 179, 3), (4, .iconst 0, 1), (5, .istore_n 1, 1), (6, .iload_n 1, 1), (7, .bipush 6, 2), (9, .if_icmp .ge 16, 3), (12, .aload_n 0, 1), (13, .getfield 47, 3), (16, .iload_n 1, 1), (17, .iconst 0, 1), (18, .iastore, 1), (19, .iinc 1 1, 3), (22, .goto (-16), 3), (25, .iconst 1, 1), (26, .istore_n 1, 1), (27, .iconst 1, 1), (28, .istore_n 2, 1), (29, .iload_n 2, 1), (30, .aload_n 0, 1), (31, .getfield 92, 3), (34, .if_icmp .gt 67, 3), (37, .iload_n 1, 1), (38, .bipush 6, 2), (40, .imul, 1), (41, .istore_n 1, 1), (42, .iconst 0, 1), (43, .istore_n 3, 1), (44, .iload_n 3, 1), (45, .iload_n 1, 1), (46, .if_icmp .ge 49, 3), (49, .aload_n 0, 1), (50, .iload_n 2, 1), (51, .iload_n 3, 1), (52, .invokevirtual 182, 3), (55, .ifCond .eq 34, 3), (58, .iconst 0, 1), (59, .istore 4, 2), (61, .iload 4, 2), (63, .iload_n 2, 1), (64, .if_icmp .ge 25, 3), (67, .aload_n 0, 1), (68, .getfield 47, 3), (71, .aload_n 0, 1), (72, .getfield 41, 3), (75, .iload 4, 2), (77, .iaload, 1), (78, .dup2, 1), (79, .iaload, 1), (80, .iconst 1, 1), (81, .iadd, 1), (82, .iastore, 1), (83, .iinc 4 1, 3), (86, .goto (-25), 3), (89, .iinc 3 1, 3), (92, .goto (-48), 3), (95, .iinc 2 1, 3), (98, .goto (-69), 3), (101, .iconst 0, 1), (102, .istore_n 2, 1), (103, .iconst 1, 1), (104, .istore_n 3, 1), (105, .iload_n 3, 1), (106, .bipush 6, 2), (108, .if_icmp .ge 30, 3), (111, .aload_n 0, 1), (112, .getfield 47, 3), (115, .iload_n 3, 1), (116, .iaload, 1), (117, .aload_n 0, 1), (118, .getfield 47, 3), (121, .iload_n 2, 1), (122, .iaload, 1), (123, .if_icmp .le 7, 3), (126, .iload_n 3, 1), (127, .goto 4, 3), (130, .iload_n 2, 1), (131, .istore_n 2, 1), (132, .iinc 3 1, 3), (135, .goto (-30), 3), (138, .aload_n 0, 1), (139, .getfield 47, 3), (142, .iload_n 2, 1), (143, .iaload, 1), (144, .ifCond .ne 8, 3), (147, .bipush (-9), 2), (149, .goto 4, 3), (152, .iload_n 2, 1), (153, .ireturn, 1)]
set_option maxRecDepth 100000 in
theorem kc_MD_next : ∀ q ∈ k_MD_next, decode cX7_next q.1 = .ok (q.2.1, q.2.2) := by decide +kernel
def k_MD_porridge : List (Nat × Instr × Nat) := [(0, .iload_n 1, 1), (1, .i2l, 1), (2, .lconst 0, 1), (3, .ldc2_w 148, 3), (6, .invokestatic 50, 3), (9, .ifCond .eq 35, 3), (12, .iload_n 2, 1), (13, .i2l, 1), (14, .lconst 0, 1), (15, .ldc2_w 185, 3), (18, .invokestatic 50, 3), (21, .ifCond .eq 23, 3), (24, .iload_n 3, 1), (25, .i2l, 1), (26, .lconst 0, 1), (27, .ldc2_w 185, 3), (30, .invokestatic 50, 3), (33, .ifCond .eq 11, 3), (36, .iload 4, 2), (38, .invokestatic 150, 3), (41, .ifCond .ne 5, 3), (44, .iconst (-1), 1), (45, .ireturn, 1), (46, .lconst 0, 1), (47, .lstore 5, 2), (49, .lconst 1, 1), (50, .lstore 7, 2), (52, .iconst 0, 1), (53, .istore 9, 2), (55, .iload 9, 2), (57, .iload_n 2, 1), (58, .if_icmp .ge 17, 3), (61, .lload 7, 2), (63, .ldc2_w 148, 3), (66, .lmul, 1), (67, .lstore 7, 2), (69, .iinc 9 1, 3), (72, .goto (-17), 3), (75, .iconst 0, 1), (76, .istore 9, 2), (78, .iload 9, 2), (80, .iconst 1, 1), (81, .iload_n 2, 1), (82, .ishl, 1), (83, .if_icmp .ge 86, 3), (86, .lconst 1, 1), (87, .lstore 10, 2), (89, .aload_n 0, 1), (90, .iconst 0, 1), (91, .putfield 56, 3), (94, .iconst 0, 1), (95, .istore 12, 2), (97, .iload 12, 2), (99, .iload_n 2, 1), (100, .if_icmp .ge 44, 3), (103, .iload 9, 2), (105, .iload 12, 2), (107, .ishr, 1), (108, .iconst 1, 1), (109, .iand, 1), (110, .istore 13, 2), (112, .lload 10, 2), (114, .iload 13, 2), (116, .ifCond .ne 8, 3), (119, .iload_n 1, 1), (120, .i2l, 1), (121, .goto 8, 3), (124, .bipush 10, 2), (126, .iload_n 1, 1), (127, .isub, 1), (128, .i2l, 1), (129, .lmul, 1), (130, .lstore 10, 2), (132, .aload_n 0, 1), (133, .iload 13, 2), (135, .invokevirtual 60, 3), (138, .iinc 12 1, 3), (141, .goto (-44), 3), (144, .lload 5, 2), (146, .aload_n 0, 1), (147, .getfield 56, 3), (150, .iload_n 3, 1), (151, .if_icmp .ne 8, 3), (154, .lload 10, 2), (156, .goto 4, 3), (159, .lconst 0, 1), (160, .ladd, 1), (161, .lstore 5, 2), (163, .iinc 9 1, 3), (166, .goto (-88), 3), (169, .lload 5, 2), (171, .lload 7, 2), (173, .iload 4, 2), (175, .invokestatic 153, 3), (178, .l2i, 1), (179, .ireturn, 1)]
set_option maxRecDepth 100000 in
theorem kc_MD_porridge : ∀ q ∈ k_MD_porridge, decode cX7_porridge q.1 = .ok (q.2.1, q.2.2) := by decide +kernel
def k_MD_share : List (Nat × Instr × Nat) := [(0, .aload_n 0, 1), (1, .iload_n 1, 1), (2, .invokevirtual 98, 3), (5, .ifCond .eq 33, 3), (8, .iload_n 2, 1), (9, .i2l, 1), (10, .lconst 1, 1), (11, .ldc2_w 187, 3), (14, .invokestatic 50, 3), (17, .ifCond .eq 21, 3), (20, .iload_n 2, 1), (21, .aload_n 0, 1), (22, .invokevirtual 106, 3), (25, .idiv, 1), (26, .aload_n 0, 1), (27, .iload_n 1, 1), (28, .invokevirtual 103, 3), (31, .invokestatic 173, 3), (34, .idiv, 1), (35, .goto 4, 3), (38, .iconst (-1), 1), (39, .ireturn, 1)]
set_option maxRecDepth 100000 in
theorem kc_MD_share : ∀ q ∈ k_MD_share, decode cX7_share q.1 = .ok (q.2.1, q.2.2) := by decide +kernel
def k_MD_rate : List (Nat × Instr × Nat) := [(0, .iload_n 1, 1), (1, .i2l, 1), (2, .lconst 0, 1), (3, .ldc2_w 54, 3), (6, .invokestatic 50, 3), (9, .ifCond .eq 11, 3), (12, .aload_n 0, 1), (13, .iload_n 2, 1), (14, .invokevirtual 98, 3), (17, .ifCond .ne 6, 3), (20, .ldc 189, 2), (22, .ireturn, 1), (23, .aload_n 0, 1), (24, .getfield 7, 3), (27, .bipush 13, 2), (29, .iload_n 2, 1), (30, .iadd, 1), (31, .iaload, 1), (32, .istore_n 3, 1), (33, .iload_n 3, 1), (34, .ifCond .ne 7, 3), (37, .iconst 0, 1), (38, .goto 11, 3), (41, .aload_n 0, 1), (42, .iload_n 2, 1), (43, .iload_n 3, 1), (44, .iconst 1, 1), (45, .isub, 1), (46, .invokevirtual 125, 3), (49, .istore 4, 2), (51, .iload_n 3, 1), (52, .aload_n 0, 1), (53, .iload_n 2, 1), (54, .invokevirtual 103, 3), (57, .invokestatic 173, 3), (60, .isub, 1), (61, .istore 5, 2), (63, .aload_n 0, 1), (64, .dup, 1), (65, .getfield 190, 3), (68, .lconst 1, 1), (69, .ladd, 1), (70, .putfield 190, 3), (73, .iload_n 1, 1), (74, .tableswitch 122 1 5 #[34, 51, 66, 85, 102], 34), (108, .aload_n 0, 1), (109, .dup, 1), (110, .getfield 190, 3), (113, .ldc2_w 148, 3), (116, .ladd, 1), (117, .putfield 190, 3), (120, .iload_n 3, 1), (121, .iload 4, 2), (123, .iadd, 1), (124, .ireturn, 1), (125, .aload_n 0, 1), (126, .dup, 1), (127, .getfield 190, 3), (130, .ldc2_w 194, 3), (133, .ladd, 1), (134, .putfield 190, 3), (137, .iload 5, 2), (139, .ireturn, 1), (140, .aload_n 0, 1), (141, .dup, 1), (142, .getfield 190, 3), (145, .ldc2_w 196, 3), (148, .ladd, 1), (149, .putfield 190, 3), (152, .iconst 2, 1), (153, .iload_n 3, 1), (154, .iload 4, 2), (156, .iadd, 1), (157, .imul, 1), (158, .ireturn, 1), (159, .aload_n 0, 1), (160, .dup, 1), (161, .getfield 190, 3), (164, .ldc2_w 198, 3), (167, .ladd, 1), (168, .putfield 190, 3), (171, .iload 5, 2), (173, .iload_n 2, 1), (174, .iadd, 1), (175, .ireturn, 1), (176, .aload_n 0, 1), (177, .dup, 1), (178, .getfield 190, 3), (181, .ldc2_w 200, 3), (184, .ladd, 1), (185, .putfield 190, 3), (188, .iload_n 3, 1), (189, .aload_n 0, 1), (190, .iload_n 2, 1), (191, .invokevirtual 142, 3), (194, .iadd, 1), (195, .ireturn, 1), (196, .iload_n 3, 1), (197, .ireturn, 1)]
set_option maxRecDepth 100000 in
theorem kc_MD_rate : ∀ q ∈ k_MD_rate, decode cX7_rate q.1 = .ok (q.2.1, q.2.2) := by decide +kernel
def k_MD_keep : List (Nat × Instr × Nat) := [(0, .iload_n 1, 1), (1, .invokestatic 150, 3), (4, .ifCond .ne 5, 3), (7, .iconst (-1), 1), (8, .ireturn, 1), (9, .aload_n 0, 1), (10, .getfield 7, 3), (13, .iconst 0, 1), (14, .aload_n 0, 1), (15, .getfield 16, 3), (18, .bipush 91, 2), (20, .iload_n 1, 1), (21, .imul, 1), (22, .invokestatic 88, 3), (25, .aload_n 0, 1), (26, .getfield 19, 3), (29, .iload_n 1, 1), (30, .iconst 1, 1), (31, .bastore, 1), (32, .aload_n 0, 1), (33, .invokevirtual 109, 3), (36, .ireturn, 1)]
set_option maxRecDepth 100000 in
theorem kc_MD_keep : ∀ q ∈ k_MD_keep, decode cX7_keep q.1 = .ok (q.2.1, q.2.2) := by decide +kernel
def k_MD_back : List (Nat × Instr × Nat) := [(0, .iload_n 1, 1), (1, .invokestatic 150, 3), (4, .ifCond .ne 5, 3), (7, .iconst (-1), 1), (8, .ireturn, 1), (9, .aload_n 0, 1), (10, .getfield 19, 3), (13, .iload_n 1, 1), (14, .baload, 1), (15, .ifCond .ne 6, 3), (18, .bipush (-2), 2), (20, .ireturn, 1), (21, .aload_n 0, 1), (22, .getfield 16, 3), (25, .bipush 91, 2), (27, .iload_n 1, 1), (28, .imul, 1), (29, .aload_n 0, 1), (30, .getfield 7, 3), (33, .iconst 0, 1), (34, .invokestatic 88, 3), (37, .aload_n 0, 1), (38, .iconst 0, 1), (39, .putfield 95, 3), (42, .aload_n 0, 1), (43, .invokevirtual 109, 3), (46, .ireturn, 1)]
set_option maxRecDepth 100000 in
theorem kc_MD_back : ∀ q ∈ k_MD_back, decode cX7_back q.1 = .ok (q.2.1, q.2.2) := by decide +kernel
def k_MD_count : List (Nat × Instr × Nat) := [(0, .iload_n 1, 1), (1, .ifCond .ne 10, 3), (4, .aload_n 0, 1), (5, .getfield 92, 3), (8, .goto 16, 3), (11, .iload_n 1, 1), (12, .iconst 1, 1), (13, .if_icmp .ne 10, 3), (16, .aload_n 0, 1), (17, .getfield 70, 3), (20, .goto 4, 3), (23, .iconst (-1), 1), (24, .ireturn, 1)]
set_option maxRecDepth 100000 in
theorem kc_MD_count : ∀ q ∈ k_MD_count, decode cX7_count q.1 = .ok (q.2.1, q.2.2) := by decide +kernel
def k_MD_trace : List (Nat × Instr × Nat) := [(0, .aload_n 0, 1), (1, .getfield 190, 3), (4, .lreturn, 1)]
set_option maxRecDepth 100000 in
theorem kc_MD_trace : ∀ q ∈ k_MD_trace, decode cX7_trace q.1 = .ok (q.2.1, q.2.2) := by decide +kernel
def k_JInt_compare : List (Nat × Instr × Nat) := [(0, .iload_n 0, 1), (1, .iload_n 1, 1), (2, .if_icmp .ge 7, 3), (5, .iconst (-1), 1), (6, .goto 13, 3), (9, .iload_n 0, 1), (10, .iload_n 1, 1), (11, .if_icmp .ne 7, 3), (14, .iconst 0, 1), (15, .goto 4, 3), (18, .iconst 1, 1), (19, .ireturn, 1)]
set_option maxRecDepth 100000 in
theorem kc_JInt_compare : ∀ q ∈ k_JInt_compare, decode cJ6_compare_7cf53 q.1 = .ok (q.2.1, q.2.2) := by decide +kernel
def k_JInt_bitCount : List (Nat × Instr × Nat) := [(0, .iload_n 0, 1), (1, .iload_n 0, 1), (2, .iconst 1, 1), (3, .iushr, 1), (4, .ldc_w 265, 3), (7, .iand, 1), (8, .isub, 1), (9, .istore_n 0, 1), (10, .iload_n 0, 1), (11, .ldc_w 266, 3), (14, .iand, 1), (15, .iload_n 0, 1), (16, .iconst 2, 1), (17, .iushr, 1), (18, .ldc_w 266, 3), (21, .iand, 1), (22, .iadd, 1), (23, .istore_n 0, 1), (24, .iload_n 0, 1), (25, .iload_n 0, 1), (26, .iconst 4, 1), (27, .iushr, 1), (28, .iadd, 1), (29, .ldc_w 267, 3), (32, .iand, 1), (33, .istore_n 0, 1), (34, .iload_n 0, 1), (35, .iload_n 0, 1), (36, .bipush 8, 2), (38, .iushr, 1), (39, .iadd, 1), (40, .istore_n 0, 1), (41, .iload_n 0, 1), (42, .iload_n 0, 1), (43, .bipush 16, 2), (45, .iushr, 1), (46, .iadd, 1), (47, .istore_n 0, 1), (48, .iload_n 0, 1), (49, .bipush 63, 2), (51, .iand, 1), (52, .ireturn, 1)]
set_option maxRecDepth 100000 in
theorem kc_JInt_bitCount : ∀ q ∈ k_JInt_bitCount, decode cJ6_bitCount_0f7a4 q.1 = .ok (q.2.1, q.2.2) := by decide +kernel
def k_JStr_length : List (Nat × Instr × Nat) := [(0, .aload_n 0, 1), (1, .getfield 9, 3), (4, .arraylength, 1), (5, .aload_n 0, 1), (6, .invokevirtual 335, 3), (9, .ishr, 1), (10, .ireturn, 1)]
set_option maxRecDepth 100000 in
theorem kc_JStr_length : ∀ q ∈ k_JStr_length, decode cJ0_length_8abf5 q.1 = .ok (q.2.1, q.2.2) := by decide +kernel
def k_JStr_indexOf : List (Nat × Instr × Nat) := [(0, .aload_n 0, 1), (1, .iload_n 1, 1), (2, .iconst 0, 1), (3, .invokevirtual 633, 3), (6, .ireturn, 1)]
set_option maxRecDepth 100000 in
theorem kc_JStr_indexOf : ∀ q ∈ k_JStr_indexOf, decode cJ0_indexOf_0f7a4 q.1 = .ok (q.2.1, q.2.2) := by decide +kernel
def k_JStr_indexOf2 : List (Nat × Instr × Nat) := [(0, .aload_n 0, 1), (1, .invokevirtual 492, 3), (4, .ifCond .eq 19, 3), (7, .aload_n 0, 1), (8, .getfield 9, 3), (11, .iload_n 1, 1), (12, .iload_n 2, 1), (13, .aload_n 0, 1), (14, .invokevirtual 505, 3), (17, .invokestatic 637, 3), (20, .goto 16, 3), (23, .aload_n 0, 1), (24, .getfield 9, 3), (27, .iload_n 1, 1), (28, .iload_n 2, 1), (29, .aload_n 0, 1), (30, .invokevirtual 505, 3), (33, .invokestatic 640, 3), (36, .ireturn, 1)]
set_option maxRecDepth 100000 in
theorem kc_JStr_indexOf2 : ∀ q ∈ k_JStr_indexOf2, decode cJ0_indexOf_7cf53 q.1 = .ok (q.2.1, q.2.2) := by decide +kernel
def k_JStr_coder : List (Nat × Instr × Nat) := [(0, .getstatic 38, 3), (3, .ifCond .eq 10, 3), (6, .aload_n 0, 1), (7, .getfield 15, 3), (10, .goto 4, 3), (13, .iconst 1, 1), (14, .ireturn, 1)]
set_option maxRecDepth 100000 in
theorem kc_JStr_coder : ∀ q ∈ k_JStr_coder, decode cJ0_coder_7d493 q.1 = .ok (q.2.1, q.2.2) := by decide +kernel
def k_JStr_isLatin1 : List (Nat × Instr × Nat) := [(0, .getstatic 38, 3), (3, .ifCond .eq 14, 3), (6, .aload_n 0, 1), (7, .getfield 15, 3), (10, .ifCond .ne 7, 3), (13, .iconst 1, 1), (14, .goto 4, 3), (17, .iconst 0, 1), (18, .ireturn, 1)]
set_option maxRecDepth 100000 in
theorem kc_JStr_isLatin1 : ∀ q ∈ k_JStr_isLatin1, decode cJ0_isLatin1_aae02 q.1 = .ok (q.2.1, q.2.2) := by decide +kernel
def k_JLat_canEncode : List (Nat × Instr × Nat) := [(0, .iload_n 0, 1), (1, .ifCond .lt 14, 3), (4, .iload_n 0, 1), (5, .sipush 255, 3), (8, .if_icmp .gt 7, 3), (11, .iconst 1, 1), (12, .goto 4, 3), (15, .iconst 0, 1), (16, .ireturn, 1)]
set_option maxRecDepth 100000 in
theorem kc_JLat_canEncode : ∀ q ∈ k_JLat_canEncode, decode cJ1_canEncode_9a6ad q.1 = .ok (q.2.1, q.2.2) := by decide +kernel
def k_JLat_indexOf : List (Nat × Instr × Nat) := [(0, .iload_n 1, 1), (1, .invokestatic 88, 3), (4, .ifCond .ne 5, 3), (7, .iconst (-1), 1), (8, .ireturn, 1), (9, .iload_n 2, 1), (10, .iconst 0, 1), (11, .invokestatic 92, 3), (14, .istore_n 2, 1), (15, .iload_n 3, 1), (16, .aload_n 0, 1), (17, .arraylength, 1), (18, .invokestatic 38, 3), (21, .istore_n 3, 1), (22, .iload_n 2, 1), (23, .iload_n 3, 1), (24, .if_icmp .lt 5, 3), (27, .iconst (-1), 1), (28, .ireturn, 1), (29, .aload_n 0, 1), (30, .iload_n 1, 1), (31, .iload_n 2, 1), (32, .iload_n 3, 1), (33, .invokestatic 95, 3), (36, .ireturn, 1)]
set_option maxRecDepth 100000 in
theorem kc_JLat_indexOf : ∀ q ∈ k_JLat_indexOf, decode cJ1_indexOf_4cfef q.1 = .ok (q.2.1, q.2.2) := by decide +kernel
def k_JLat_indexOfChar : List (Nat × Instr × Nat) := [(0, .iload_n 1, 1), (1, .i2b, 1), (2, .istore 4, 2), (4, .iload_n 2, 1), (5, .istore 5, 2), (7, .iload 5, 2), (9, .iload_n 3, 1), (10, .if_icmp .ge 21, 3), (13, .aload_n 0, 1), (14, .iload 5, 2), (16, .baload, 1), (17, .iload 4, 2), (19, .if_icmp .ne 6, 3), (22, .iload 5, 2), (24, .ireturn, 1), (25, .iinc 5 1, 3), (28, .goto (-21), 3), (31, .iconst (-1), 1), (32, .ireturn, 1)]
set_option maxRecDepth 100000 in
theorem kc_JLat_indexOfChar : ∀ q ∈ k_JLat_indexOfChar, decode cJ1_indexOfChar_4cfef q.1 = .ok (q.2.1, q.2.2) := by decide +kernel
end
section
def k_LAW_0 : List (Nat × Instr × Nat) := [(0, .new 7, 3), (3, .dup, 1), (4, .invokespecial 9, 3), (7, .astore_n 1, 1), (8, .new 10, 3), (11, .dup, 1), (12, .invokespecial 12, 3), (15, .astore_n 2, 1), (16, .iconst 0, 1), (17, .istore_n 3, 1), (18, .iload_n 3, 1), (19, .aload_n 0, 1), (20, .arraylength, 1), (21, .iconst 5, 1), (22, .isub, 1), (23, .if_icmp .gt 960, 3), (26, .aload_n 0, 1), (27, .iload_n 3, 1), (28, .iaload, 1), (29, .bipush 31, 2), (31, .iand, 1), (32, .tableswitch 945 0 30 #[140, 163, 176, 189, 222, 245, 268, 301, 324, 357, 380, 403, 416, 429, 452, 475, 508, 531, 554, 608, 641, 684, 707, 730, 743, 796, 829, 862, 885, 908, 931], 140), (172, .aload_n 1, 1), (173, .aload_n 0, 1), (174, .iload_n 3, 1), (175, .iconst 1, 1), (176, .iadd, 1), (177, .iaload, 1), (178, .invokevirtual 13, 3), (181, .aload_n 2, 1), (182, .aload_n 0, 1), (183, .iload_n 3, 1), (184, .iconst 1, 1), (185, .iadd, 1), (186, .iaload, 1), (187, .invokevirtual 17, 3), (190, .if_icmp .eq 787, 3), (193, .iconst 0, 1), (194, .ireturn, 1), (195, .aload_n 1, 1)]
set_option maxRecDepth 100000 in
theorem kc_LAW_0 : ∀ q ∈ k_LAW_0, decode cL_law q.1 = .ok (q.2.1, q.2.2) := by decide +kernel
def k_LAW_1 : List (Nat × Instr × Nat) := [(196, .invokevirtual 18, 3), (199, .aload_n 2, 1), (200, .invokevirtual 22, 3), (203, .if_icmp .eq 774, 3), (206, .iconst 0, 1), (207, .ireturn, 1), (208, .aload_n 1, 1), (209, .invokevirtual 23, 3), (212, .aload_n 2, 1), (213, .invokevirtual 26, 3), (216, .if_icmp .eq 761, 3), (219, .iconst 0, 1), (220, .ireturn, 1), (221, .aload_n 1, 1), (222, .aload_n 0, 1), (223, .iload_n 3, 1), (224, .iconst 1, 1), (225, .iadd, 1), (226, .iaload, 1), (227, .aload_n 0, 1), (228, .iload_n 3, 1), (229, .iconst 2, 1), (230, .iadd, 1), (231, .iaload, 1), (232, .invokevirtual 27, 3), (235, .aload_n 2, 1), (236, .aload_n 0, 1), (237, .iload_n 3, 1), (238, .iconst 1, 1), (239, .iadd, 1), (240, .iaload, 1), (241, .aload_n 0, 1), (242, .iload_n 3, 1), (243, .iconst 2, 1), (244, .iadd, 1), (245, .iaload, 1), (246, .invokevirtual 31, 3), (249, .if_icmp .eq 728, 3), (252, .iconst 0, 1), (253, .ireturn, 1)]
set_option maxRecDepth 100000 in
theorem kc_LAW_1 : ∀ q ∈ k_LAW_1, decode cL_law q.1 = .ok (q.2.1, q.2.2) := by decide +kernel
def k_LAW_2 : List (Nat × Instr × Nat) := [(254, .aload_n 1, 1), (255, .aload_n 0, 1), (256, .iload_n 3, 1), (257, .iconst 1, 1), (258, .iadd, 1), (259, .iaload, 1), (260, .invokevirtual 32, 3), (263, .aload_n 2, 1), (264, .aload_n 0, 1), (265, .iload_n 3, 1), (266, .iconst 1, 1), (267, .iadd, 1), (268, .iaload, 1), (269, .invokevirtual 35, 3), (272, .if_icmp .eq 705, 3), (275, .iconst 0, 1), (276, .ireturn, 1), (277, .aload_n 1, 1), (278, .aload_n 0, 1), (279, .iload_n 3, 1), (280, .iconst 1, 1), (281, .iadd, 1), (282, .iaload, 1), (283, .invokevirtual 36, 3), (286, .aload_n 2, 1), (287, .aload_n 0, 1), (288, .iload_n 3, 1), (289, .iconst 1, 1), (290, .iadd, 1), (291, .iaload, 1), (292, .invokevirtual 39, 3), (295, .if_icmp .eq 682, 3), (298, .iconst 0, 1), (299, .ireturn, 1), (300, .aload_n 1, 1), (301, .aload_n 0, 1), (302, .iload_n 3, 1), (303, .iconst 1, 1), (304, .iadd, 1), (305, .iaload, 1)]
set_option maxRecDepth 100000 in
theorem kc_LAW_2 : ∀ q ∈ k_LAW_2, decode cL_law q.1 = .ok (q.2.1, q.2.2) := by decide +kernel
def k_LAW_3 : List (Nat × Instr × Nat) := [(306, .aload_n 0, 1), (307, .iload_n 3, 1), (308, .iconst 2, 1), (309, .iadd, 1), (310, .iaload, 1), (311, .invokevirtual 40, 3), (314, .aload_n 2, 1), (315, .aload_n 0, 1), (316, .iload_n 3, 1), (317, .iconst 1, 1), (318, .iadd, 1), (319, .iaload, 1), (320, .aload_n 0, 1), (321, .iload_n 3, 1), (322, .iconst 2, 1), (323, .iadd, 1), (324, .iaload, 1), (325, .invokevirtual 43, 3), (328, .if_icmp .eq 649, 3), (331, .iconst 0, 1), (332, .ireturn, 1), (333, .aload_n 1, 1), (334, .aload_n 0, 1), (335, .iload_n 3, 1), (336, .iconst 1, 1), (337, .iadd, 1), (338, .iaload, 1), (339, .invokevirtual 44, 3), (342, .aload_n 2, 1), (343, .aload_n 0, 1), (344, .iload_n 3, 1), (345, .iconst 1, 1), (346, .iadd, 1), (347, .iaload, 1), (348, .invokevirtual 47, 3), (351, .if_icmp .eq 626, 3), (354, .iconst 0, 1), (355, .ireturn, 1), (356, .aload_n 1, 1), (357, .aload_n 0, 1)]
set_option maxRecDepth 100000 in
theorem kc_LAW_3 : ∀ q ∈ k_LAW_3, decode cL_law q.1 = .ok (q.2.1, q.2.2) := by decide +kernel
def k_LAW_4 : List (Nat × Instr × Nat) := [(358, .iload_n 3, 1), (359, .iconst 1, 1), (360, .iadd, 1), (361, .iaload, 1), (362, .aload_n 0, 1), (363, .iload_n 3, 1), (364, .iconst 2, 1), (365, .iadd, 1), (366, .iaload, 1), (367, .invokevirtual 48, 3), (370, .aload_n 2, 1), (371, .aload_n 0, 1), (372, .iload_n 3, 1), (373, .iconst 1, 1), (374, .iadd, 1), (375, .iaload, 1), (376, .aload_n 0, 1), (377, .iload_n 3, 1), (378, .iconst 2, 1), (379, .iadd, 1), (380, .iaload, 1), (381, .invokevirtual 51, 3), (384, .if_icmp .eq 593, 3), (387, .iconst 0, 1), (388, .ireturn, 1), (389, .aload_n 1, 1), (390, .aload_n 0, 1), (391, .iload_n 3, 1), (392, .iconst 1, 1), (393, .iadd, 1), (394, .iaload, 1), (395, .invokevirtual 52, 3), (398, .aload_n 2, 1), (399, .aload_n 0, 1), (400, .iload_n 3, 1), (401, .iconst 1, 1), (402, .iadd, 1), (403, .iaload, 1), (404, .invokevirtual 55, 3), (407, .if_icmp .eq 570, 3)]
set_option maxRecDepth 100000 in
theorem kc_LAW_4 : ∀ q ∈ k_LAW_4, decode cL_law q.1 = .ok (q.2.1, q.2.2) := by decide +kernel
def k_LAW_5 : List (Nat × Instr × Nat) := [(410, .iconst 0, 1), (411, .ireturn, 1), (412, .aload_n 1, 1), (413, .aload_n 0, 1), (414, .iload_n 3, 1), (415, .iconst 1, 1), (416, .iadd, 1), (417, .iaload, 1), (418, .invokevirtual 56, 3), (421, .aload_n 2, 1), (422, .aload_n 0, 1), (423, .iload_n 3, 1), (424, .iconst 1, 1), (425, .iadd, 1), (426, .iaload, 1), (427, .invokevirtual 59, 3), (430, .if_icmp .eq 547, 3), (433, .iconst 0, 1), (434, .ireturn, 1), (435, .aload_n 1, 1), (436, .invokevirtual 60, 3), (439, .aload_n 2, 1), (440, .invokevirtual 63, 3), (443, .if_icmp .eq 534, 3), (446, .iconst 0, 1), (447, .ireturn, 1), (448, .aload_n 1, 1), (449, .invokevirtual 64, 3), (452, .aload_n 2, 1), (453, .invokevirtual 67, 3), (456, .if_icmp .eq 521, 3), (459, .iconst 0, 1), (460, .ireturn, 1), (461, .aload_n 1, 1), (462, .aload_n 0, 1), (463, .iload_n 3, 1), (464, .iconst 1, 1), (465, .iadd, 1), (466, .iaload, 1), (467, .invokevirtual 68, 3)]
set_option maxRecDepth 100000 in
theorem kc_LAW_5 : ∀ q ∈ k_LAW_5, decode cL_law q.1 = .ok (q.2.1, q.2.2) := by decide +kernel
def k_LAW_6 : List (Nat × Instr × Nat) := [(470, .aload_n 2, 1), (471, .aload_n 0, 1), (472, .iload_n 3, 1), (473, .iconst 1, 1), (474, .iadd, 1), (475, .iaload, 1), (476, .invokevirtual 71, 3), (479, .if_icmp .eq 498, 3), (482, .iconst 0, 1), (483, .ireturn, 1), (484, .aload_n 1, 1), (485, .aload_n 0, 1), (486, .iload_n 3, 1), (487, .iconst 1, 1), (488, .iadd, 1), (489, .iaload, 1), (490, .invokevirtual 72, 3), (493, .aload_n 2, 1), (494, .aload_n 0, 1), (495, .iload_n 3, 1), (496, .iconst 1, 1), (497, .iadd, 1), (498, .iaload, 1), (499, .invokevirtual 75, 3), (502, .if_icmp .eq 475, 3), (505, .iconst 0, 1), (506, .ireturn, 1), (507, .aload_n 1, 1), (508, .aload_n 0, 1), (509, .iload_n 3, 1), (510, .iconst 1, 1), (511, .iadd, 1), (512, .iaload, 1), (513, .aload_n 0, 1), (514, .iload_n 3, 1), (515, .iconst 2, 1), (516, .iadd, 1), (517, .iaload, 1), (518, .invokevirtual 76, 3), (521, .aload_n 2, 1)]
set_option maxRecDepth 100000 in
theorem kc_LAW_6 : ∀ q ∈ k_LAW_6, decode cL_law q.1 = .ok (q.2.1, q.2.2) := by decide +kernel
def k_LAW_7 : List (Nat × Instr × Nat) := [(522, .aload_n 0, 1), (523, .iload_n 3, 1), (524, .iconst 1, 1), (525, .iadd, 1), (526, .iaload, 1), (527, .aload_n 0, 1), (528, .iload_n 3, 1), (529, .iconst 2, 1), (530, .iadd, 1), (531, .iaload, 1), (532, .invokevirtual 79, 3), (535, .if_icmp .eq 442, 3), (538, .iconst 0, 1), (539, .ireturn, 1), (540, .aload_n 1, 1), (541, .aload_n 0, 1), (542, .iload_n 3, 1), (543, .iconst 1, 1), (544, .iadd, 1), (545, .iaload, 1), (546, .invokevirtual 80, 3), (549, .aload_n 2, 1), (550, .aload_n 0, 1), (551, .iload_n 3, 1), (552, .iconst 1, 1), (553, .iadd, 1), (554, .iaload, 1), (555, .invokevirtual 83, 3), (558, .if_icmp .eq 419, 3), (561, .iconst 0, 1), (562, .ireturn, 1), (563, .aload_n 1, 1), (564, .aload_n 0, 1), (565, .iload_n 3, 1), (566, .iconst 1, 1), (567, .iadd, 1), (568, .iaload, 1), (569, .invokevirtual 84, 3), (572, .aload_n 2, 1), (573, .aload_n 0, 1)]
set_option maxRecDepth 100000 in
theorem kc_LAW_7 : ∀ q ∈ k_LAW_7, decode cL_law q.1 = .ok (q.2.1, q.2.2) := by decide +kernel
def k_LAW_8 : List (Nat × Instr × Nat) := [(574, .iload_n 3, 1), (575, .iconst 1, 1), (576, .iadd, 1), (577, .iaload, 1), (578, .invokevirtual 87, 3), (581, .if_icmp .eq 396, 3), (584, .iconst 0, 1), (585, .ireturn, 1), (586, .aload_n 1, 1), (587, .aload_n 0, 1), (588, .iload_n 3, 1), (589, .iconst 1, 1), (590, .iadd, 1), (591, .iaload, 1), (592, .aload_n 0, 1), (593, .iload_n 3, 1), (594, .iconst 2, 1), (595, .iadd, 1), (596, .iaload, 1), (597, .aload_n 0, 1), (598, .iload_n 3, 1), (599, .iconst 3, 1), (600, .iadd, 1), (601, .iaload, 1), (602, .aload_n 0, 1), (603, .iload_n 3, 1), (604, .iconst 4, 1), (605, .iadd, 1), (606, .iaload, 1), (607, .invokevirtual 88, 3), (610, .aload_n 2, 1), (611, .aload_n 0, 1), (612, .iload_n 3, 1), (613, .iconst 1, 1), (614, .iadd, 1), (615, .iaload, 1), (616, .aload_n 0, 1), (617, .iload_n 3, 1), (618, .iconst 2, 1), (619, .iadd, 1)]
set_option maxRecDepth 100000 in
theorem kc_LAW_8 : ∀ q ∈ k_LAW_8, decode cL_law q.1 = .ok (q.2.1, q.2.2) := by decide +kernel
def k_LAW_9 : List (Nat × Instr × Nat) := [(620, .iaload, 1), (621, .aload_n 0, 1), (622, .iload_n 3, 1), (623, .iconst 3, 1), (624, .iadd, 1), (625, .iaload, 1), (626, .aload_n 0, 1), (627, .iload_n 3, 1), (628, .iconst 4, 1), (629, .iadd, 1), (630, .iaload, 1), (631, .invokevirtual 92, 3), (634, .lcmp, 1), (635, .ifCond .eq 342, 3), (638, .iconst 0, 1), (639, .ireturn, 1), (640, .aload_n 1, 1), (641, .aload_n 0, 1), (642, .iload_n 3, 1), (643, .iconst 1, 1), (644, .iadd, 1), (645, .iaload, 1), (646, .aload_n 0, 1), (647, .iload_n 3, 1), (648, .iconst 2, 1), (649, .iadd, 1), (650, .iaload, 1), (651, .invokevirtual 93, 3), (654, .aload_n 2, 1), (655, .aload_n 0, 1), (656, .iload_n 3, 1), (657, .iconst 1, 1), (658, .iadd, 1), (659, .iaload, 1), (660, .aload_n 0, 1), (661, .iload_n 3, 1), (662, .iconst 2, 1), (663, .iadd, 1), (664, .iaload, 1), (665, .invokevirtual 96, 3)]
set_option maxRecDepth 100000 in
theorem kc_LAW_9 : ∀ q ∈ k_LAW_9, decode cL_law q.1 = .ok (q.2.1, q.2.2) := by decide +kernel
def k_LAW_10 : List (Nat × Instr × Nat) := [(668, .if_icmp .eq 309, 3), (671, .iconst 0, 1), (672, .ireturn, 1), (673, .aload_n 1, 1), (674, .aload_n 0, 1), (675, .iload_n 3, 1), (676, .iconst 1, 1), (677, .iadd, 1), (678, .iaload, 1), (679, .aload_n 0, 1), (680, .iload_n 3, 1), (681, .iconst 2, 1), (682, .iadd, 1), (683, .iaload, 1), (684, .aload_n 0, 1), (685, .iload_n 3, 1), (686, .iconst 3, 1), (687, .iadd, 1), (688, .iaload, 1), (689, .invokevirtual 97, 3), (692, .aload_n 2, 1), (693, .aload_n 0, 1), (694, .iload_n 3, 1), (695, .iconst 1, 1), (696, .iadd, 1), (697, .iaload, 1), (698, .aload_n 0, 1), (699, .iload_n 3, 1), (700, .iconst 2, 1), (701, .iadd, 1), (702, .iaload, 1), (703, .aload_n 0, 1), (704, .iload_n 3, 1), (705, .iconst 3, 1), (706, .iadd, 1), (707, .iaload, 1), (708, .invokevirtual 101, 3), (711, .if_icmp .eq 266, 3), (714, .iconst 0, 1), (715, .ireturn, 1)]
set_option maxRecDepth 100000 in
theorem kc_LAW_10 : ∀ q ∈ k_LAW_10, decode cL_law q.1 = .ok (q.2.1, q.2.2) := by decide +kernel
def k_LAW_11 : List (Nat × Instr × Nat) := [(716, .aload_n 1, 1), (717, .aload_n 0, 1), (718, .iload_n 3, 1), (719, .iconst 1, 1), (720, .iadd, 1), (721, .iaload, 1), (722, .invokevirtual 102, 3), (725, .aload_n 2, 1), (726, .aload_n 0, 1), (727, .iload_n 3, 1), (728, .iconst 1, 1), (729, .iadd, 1), (730, .iaload, 1), (731, .invokevirtual 105, 3), (734, .if_icmp .eq 243, 3), (737, .iconst 0, 1), (738, .ireturn, 1), (739, .aload_n 1, 1), (740, .aload_n 0, 1), (741, .iload_n 3, 1), (742, .iconst 1, 1), (743, .iadd, 1), (744, .iaload, 1), (745, .invokevirtual 106, 3), (748, .aload_n 2, 1), (749, .aload_n 0, 1), (750, .iload_n 3, 1), (751, .iconst 1, 1), (752, .iadd, 1), (753, .iaload, 1), (754, .invokevirtual 109, 3), (757, .if_icmp .eq 220, 3), (760, .iconst 0, 1), (761, .ireturn, 1), (762, .aload_n 1, 1), (763, .invokevirtual 110, 3), (766, .aload_n 2, 1), (767, .invokevirtual 113, 3), (770, .if_icmp .eq 207, 3), (773, .iconst 0, 1)]
set_option maxRecDepth 100000 in
theorem kc_LAW_11 : ∀ q ∈ k_LAW_11, decode cL_law q.1 = .ok (q.2.1, q.2.2) := by decide +kernel
def k_LAW_12 : List (Nat × Instr × Nat) := [(774, .ireturn, 1), (775, .aload_n 1, 1), (776, .aload_n 0, 1), (777, .iload_n 3, 1), (778, .iconst 1, 1), (779, .iadd, 1), (780, .iaload, 1), (781, .aload_n 0, 1), (782, .iload_n 3, 1), (783, .iconst 2, 1), (784, .iadd, 1), (785, .iaload, 1), (786, .aload_n 0, 1), (787, .iload_n 3, 1), (788, .iconst 3, 1), (789, .iadd, 1), (790, .iaload, 1), (791, .aload_n 0, 1), (792, .iload_n 3, 1), (793, .iconst 4, 1), (794, .iadd, 1), (795, .iaload, 1), (796, .invokevirtual 114, 3), (799, .aload_n 2, 1), (800, .aload_n 0, 1), (801, .iload_n 3, 1), (802, .iconst 1, 1), (803, .iadd, 1), (804, .iaload, 1), (805, .aload_n 0, 1), (806, .iload_n 3, 1), (807, .iconst 2, 1), (808, .iadd, 1), (809, .iaload, 1), (810, .aload_n 0, 1), (811, .iload_n 3, 1), (812, .iconst 3, 1), (813, .iadd, 1), (814, .iaload, 1), (815, .aload_n 0, 1)]
set_option maxRecDepth 100000 in
theorem kc_LAW_12 : ∀ q ∈ k_LAW_12, decode cL_law q.1 = .ok (q.2.1, q.2.2) := by decide +kernel
def k_LAW_13 : List (Nat × Instr × Nat) := [(816, .iload_n 3, 1), (817, .iconst 4, 1), (818, .iadd, 1), (819, .iaload, 1), (820, .invokevirtual 118, 3), (823, .if_icmp .eq 154, 3), (826, .iconst 0, 1), (827, .ireturn, 1), (828, .aload_n 1, 1), (829, .aload_n 0, 1), (830, .iload_n 3, 1), (831, .iconst 1, 1), (832, .iadd, 1), (833, .iaload, 1), (834, .aload_n 0, 1), (835, .iload_n 3, 1), (836, .iconst 2, 1), (837, .iadd, 1), (838, .iaload, 1), (839, .invokevirtual 119, 3), (842, .aload_n 2, 1), (843, .aload_n 0, 1), (844, .iload_n 3, 1), (845, .iconst 1, 1), (846, .iadd, 1), (847, .iaload, 1), (848, .aload_n 0, 1), (849, .iload_n 3, 1), (850, .iconst 2, 1), (851, .iadd, 1), (852, .iaload, 1), (853, .invokevirtual 122, 3), (856, .if_icmp .eq 121, 3), (859, .iconst 0, 1), (860, .ireturn, 1), (861, .aload_n 1, 1), (862, .aload_n 0, 1), (863, .iload_n 3, 1), (864, .iconst 1, 1), (865, .iadd, 1)]
set_option maxRecDepth 100000 in
theorem kc_LAW_13 : ∀ q ∈ k_LAW_13, decode cL_law q.1 = .ok (q.2.1, q.2.2) := by decide +kernel
def k_LAW_14 : List (Nat × Instr × Nat) := [(866, .iaload, 1), (867, .aload_n 0, 1), (868, .iload_n 3, 1), (869, .iconst 2, 1), (870, .iadd, 1), (871, .iaload, 1), (872, .invokevirtual 123, 3), (875, .aload_n 2, 1), (876, .aload_n 0, 1), (877, .iload_n 3, 1), (878, .iconst 1, 1), (879, .iadd, 1), (880, .iaload, 1), (881, .aload_n 0, 1), (882, .iload_n 3, 1), (883, .iconst 2, 1), (884, .iadd, 1), (885, .iaload, 1), (886, .invokevirtual 126, 3), (889, .if_icmp .eq 88, 3), (892, .iconst 0, 1), (893, .ireturn, 1), (894, .aload_n 1, 1), (895, .aload_n 0, 1), (896, .iload_n 3, 1), (897, .iconst 1, 1), (898, .iadd, 1), (899, .iaload, 1), (900, .invokevirtual 127, 3), (903, .aload_n 2, 1), (904, .aload_n 0, 1), (905, .iload_n 3, 1), (906, .iconst 1, 1), (907, .iadd, 1), (908, .iaload, 1), (909, .invokevirtual 130, 3), (912, .if_icmp .eq 65, 3), (915, .iconst 0, 1), (916, .ireturn, 1), (917, .aload_n 1, 1)]
set_option maxRecDepth 100000 in
theorem kc_LAW_14 : ∀ q ∈ k_LAW_14, decode cL_law q.1 = .ok (q.2.1, q.2.2) := by decide +kernel
def k_LAW_15 : List (Nat × Instr × Nat) := [(918, .aload_n 0, 1), (919, .iload_n 3, 1), (920, .iconst 1, 1), (921, .iadd, 1), (922, .iaload, 1), (923, .invokevirtual 131, 3), (926, .aload_n 2, 1), (927, .aload_n 0, 1), (928, .iload_n 3, 1), (929, .iconst 1, 1), (930, .iadd, 1), (931, .iaload, 1), (932, .invokevirtual 134, 3), (935, .if_icmp .eq 42, 3), (938, .iconst 0, 1), (939, .ireturn, 1), (940, .aload_n 1, 1), (941, .aload_n 0, 1), (942, .iload_n 3, 1), (943, .iconst 1, 1), (944, .iadd, 1), (945, .iaload, 1), (946, .invokevirtual 135, 3), (949, .aload_n 2, 1), (950, .aload_n 0, 1), (951, .iload_n 3, 1), (952, .iconst 1, 1), (953, .iadd, 1), (954, .iaload, 1), (955, .invokevirtual 138, 3), (958, .if_icmp .eq 19, 3), (961, .iconst 0, 1), (962, .ireturn, 1), (963, .aload_n 1, 1), (964, .invokevirtual 139, 3), (967, .aload_n 2, 1), (968, .invokevirtual 143, 3), (971, .lcmp, 1), (972, .ifCond .eq 5, 3), (975, .iconst 0, 1)]
set_option maxRecDepth 100000 in
theorem kc_LAW_15 : ∀ q ∈ k_LAW_15, decode cL_law q.1 = .ok (q.2.1, q.2.2) := by decide +kernel
def k_LAW_16 : List (Nat × Instr × Nat) := [(976, .ireturn, 1), (977, .iinc 3 5, 3), (980, .goto (-962), 3), (983, .iconst 1, 1), (984, .ireturn, 1)]
set_option maxRecDepth 100000 in
theorem kc_LAW_16 : ∀ q ∈ k_LAW_16, decode cL_law q.1 = .ok (q.2.1, q.2.2) := by decide +kernel
def k_LAW_law : List (Nat × Instr × Nat) := k_LAW_0 ++ (k_LAW_1 ++ (k_LAW_2 ++ (k_LAW_3 ++ (k_LAW_4 ++ (k_LAW_5 ++ (k_LAW_6 ++ (k_LAW_7 ++ (k_LAW_8 ++ (k_LAW_9 ++ (k_LAW_10 ++ (k_LAW_11 ++ (k_LAW_12 ++ (k_LAW_13 ++ (k_LAW_14 ++ (k_LAW_15 ++ (k_LAW_16))))))))))))))))
theorem kc_LAW_law : ∀ q ∈ k_LAW_law, decode cL_law q.1 = .ok (q.2.1, q.2.2) := List.forall_mem_append.mpr ⟨kc_LAW_0, List.forall_mem_append.mpr ⟨kc_LAW_1, List.forall_mem_append.mpr ⟨kc_LAW_2, List.forall_mem_append.mpr ⟨kc_LAW_3, List.forall_mem_append.mpr ⟨kc_LAW_4, List.forall_mem_append.mpr ⟨kc_LAW_5, List.forall_mem_append.mpr ⟨kc_LAW_6, List.forall_mem_append.mpr ⟨kc_LAW_7, List.forall_mem_append.mpr ⟨kc_LAW_8, List.forall_mem_append.mpr ⟨kc_LAW_9, List.forall_mem_append.mpr ⟨kc_LAW_10, List.forall_mem_append.mpr ⟨kc_LAW_11, List.forall_mem_append.mpr ⟨kc_LAW_12, List.forall_mem_append.mpr ⟨kc_LAW_13, List.forall_mem_append.mpr ⟨kc_LAW_14, List.forall_mem_append.mpr ⟨kc_LAW_15, kc_LAW_16⟩⟩⟩⟩⟩⟩⟩⟩⟩⟩⟩⟩⟩⟩⟩⟩
end
section
/-- a method: its class, name, bytes, locals, answer, whether it is a constructor, its code, the heads of its loops with the locals that live there -/
abbrev MT : Type := Nat × MethodName × ByteArray × Nat × Option FieldType × Bool × List (Nat × Instr × Nat) × List (Nat × List Nat)
def m_Camp_init : MT := (0, yX0_init, cX0_init, 2, none, true, k_Camp_init, [(33, [0, 1])])
def m_Camp_has : MT := (0, yX0_has, cX0_has, 2, (some .boolean), false, k_Camp_has, [])
def m_Camp_nameOf : MT := (0, yX0_nameOf, cX0_nameOf, 2, (some (.object "KnotNames$Row")), false, k_Camp_nameOf, [])
def m_Camp_empty : MT := (0, yX0_empty, cX0_empty, 1, none, false, k_Camp_empty, [])
def m_Camp_addHerder : MT := (0, yX0_addHerder, cX0_addHerder, 1, none, false, k_Camp_addHerder, [])
def m_Camp_tieLastHerder : MT := (0, yX0_tieLastHerder, cX0_tieLastHerder, 2, none, false, k_Camp_tieLastHerder, [])
def m_Camp_become : MT := (0, yX0_become, cX0_become, 3, none, false, k_Camp_become, [(10, [0, 1, 2])])
def m_Camp_turns : MT := (0, yX0_turns, cX0_turns, 3, (some .int), false, k_Camp_turns, [(4, [0, 1, 2])])
def m_Camp_named : MT := (0, yX0_named, cX0_named, 3, (some .int), false, k_Camp_named, [(4, [0, 1, 2])])
def m_Camp_calledLike : MT := (0, yX0_calledLike, cX0_calledLike, 4, (some .int), false, k_Camp_calledLike, [(4, [0, 1, 2, 3])])
def m_Camp_unlikeNames : MT := (0, yX0_unlikeNames, cX0_unlikeNames, 4, (some .int), false, k_Camp_unlikeNames, [(4, [0, 1, 2])])
def m_Lives_init : MT := (1, yX1_init, cX1_init, 1, none, true, k_Lives_init, [])
def m_Lives_readBack : MT := (1, yX1_readBack, cX1_readBack, 3, none, false, k_Lives_readBack, [(31, [0, 1, 2])])
def m_Lives_seek : MT := (1, yX1_seek, cX1_seek, 6, none, false, k_Lives_seek, [(10, [0, 1, 2, 3, 4])])
def m_Lives_note : MT := (1, yX1_note, cX1_note, 4, none, false, k_Lives_note, [(32, [0, 1, 2, 3])])
def m_Lives_inMost : MT := (1, yX1_inMost, cX1_inMost, 3, (some .int), false, k_Lives_inMost, [(4, [0, 1, 2])])
def m_NewN_init : MT := (2, yX2_init, cX2_init, 1, none, true, k_NewN_init, [])
def m_NewN_find : MT := (2, yX2_find, cX2_find, 6, none, false, k_NewN_find, [(17, [0, 1, 2, 3, 4, 5])])
def m_NewN_spell : MT := (2, yX2_spell, cX2_spell, 5, none, false, k_NewN_spell, [(12, [0, 1, 2, 3])])
def m_NewN_isFar : MT := (2, yX2_isFar, cX2_isFar, 5, (some .boolean), false, k_NewN_isFar, [(2, [0, 1, 2, 3])])
def m_Past_init : MT := (3, yX3_init, cX3_init, 2, none, true, k_Past_init, [(25, [0, 1])])
def m_Past_remember : MT := (3, yX3_remember, cX3_remember, 2, none, false, k_Past_remember, [])
def m_Past_takeBack : MT := (3, yX3_takeBack, cX3_takeBack, 2, none, false, k_Past_takeBack, [])
def m_Past_forget : MT := (3, yX3_forget, cX3_forget, 1, none, false, k_Past_forget, [])
def m_Row_init : MT := (4, yX4_init, cX4_init, 2, none, true, k_Row_init, [])
def m_Row_at : MT := (4, yX4_at, cX4_at, 2, (some .int), false, k_Row_at, [])
def m_Row_last : MT := (4, yX4_last, cX4_last, 1, (some .int), false, k_Row_last, [])
def m_Row_empty : MT := (4, yX4_empty, cX4_empty, 2, (some .int), false, k_Row_empty, [])
def m_Row_append : MT := (4, yX4_append, cX4_append, 2, none, false, k_Row_append, [])
def m_Row_dropLast : MT := (4, yX4_dropLast, cX4_dropLast, 1, none, false, k_Row_dropLast, [])
def m_Row_endsUndoing : MT := (4, yX4_endsUndoing, cX4_endsUndoing, 2, (some .boolean), false, k_Row_endsUndoing, [])
def m_Row_takesTight : MT := (4, yX4_takesTight, cX4_takesTight, 2, (some .boolean), false, k_Row_takesTight, [])
def m_Row_appendTight : MT := (4, yX4_appendTight, cX4_appendTight, 2, none, false, k_Row_appendTight, [])
def m_Row_appendAllTight : MT := (4, yX4_appendAllTight, cX4_appendAllTight, 3, none, false, k_Row_appendAllTight, [(2, [0, 1, 2])])
def m_Row_appendAllUndoing : MT := (4, yX4_appendAllUndoing, cX4_appendAllUndoing, 3, none, false, k_Row_appendAllUndoing, [(7, [0, 1, 2])])
def m_Row_become : MT := (4, yX4_become, cX4_become, 3, none, false, k_Row_become, [(7, [0, 1, 2])])
def m_Row_becomeTight : MT := (4, yX4_becomeTight, cX4_becomeTight, 2, none, false, k_Row_becomeTight, [])
def m_Row_becomeJoined : MT := (4, yX4_becomeJoined, cX4_becomeJoined, 3, none, false, k_Row_becomeJoined, [])
def m_Row_isTight : MT := (4, yX4_isTight, cX4_isTight, 2, (some .boolean), false, k_Row_isTight, [(2, [0, 1])])
def m_Row_commonStart : MT := (4, yX4_commonStart, cX4_commonStart, 4, (some .int), false, k_Row_commonStart, [(14, [0, 1, 2, 3])])
def m_Row_isLike : MT := (4, yX4_isLike, cX4_isLike, 2, (some .boolean), false, k_Row_isLike, [])
def m_Row_compareWith : MT := (4, yX4_compareWith, cX4_compareWith, 3, (some .int), false, k_Row_compareWith, [])
def m_Row_differences : MT := (4, yX4_differences, cX4_differences, 4, (some .int), false, k_Row_differences, [(4, [0, 1, 2, 3])])
def m_Row_shortestRepeated : MT := (4, yX4_shortestRepeated, cX4_shortestRepeated, 2, (some .int), false, k_Row_shortestRepeated, [(2, [0, 1])])
def m_Row_repeats : MT := (4, yX4_repeats, cX4_repeats, 3, (some .boolean), false, k_Row_repeats, [(2, [0, 1, 2])])
def m_Row_lostByBending : MT := (4, yX4_lostByBending, cX4_lostByBending, 3, (some .int), false, k_Row_lostByBending, [(4, [0, 1, 2])])
def m_Row_isRingOf : MT := (4, yX4_isRingOf, cX4_isRingOf, 6, (some .boolean), false, k_Row_isRingOf, [(38, [0, 1, 2, 3, 4, 5])])
def m_Row_isRingBegunAt : MT := (4, yX4_isRingBegunAt, cX4_isRingBegunAt, 8, (some .boolean), false, k_Row_isRingBegunAt, [(3, [0, 1, 2, 3, 4, 5, 6])])
def m_Text_init : MT := (5, yX5_init, cX5_init, 1, none, true, k_Text_init, [])
def m_Text_append : MT := (5, yX5_append, cX5_append, 2, (some .boolean), false, k_Text_append, [])
def m_Text_empty : MT := (5, yX5_empty, cX5_empty, 1, none, false, k_Text_empty, [])
def m_Text_isTurnLetter : MT := (5, yX5_isTurnLetter, cX5_isTurnLetter, 1, (some .boolean), false, k_Text_isTurnLetter, [])
def m_Text_fault : MT := (5, yX5_fault, cX5_fault, 6, (some .int), false, k_Text_fault, [(9, [0, 1, 2, 3, 4])])
def m_Text_tell : MT := (5, yX5_tell, cX5_tell, 4, none, false, k_Text_tell, [(6, [0, 1, 2])])
def m_KN_init : MT := (6, yX6_init, cX6_init, 2, none, true, k_KN_init, [(132, [0, 1])])
def m_KN_type : MT := (6, yX6_type, cX6_type, 2, (some .int), false, k_KN_type, [])
def m_KN_clear : MT := (6, yX6_clear, cX6_clear, 2, (some .int), false, k_KN_clear, [])
def m_KN_camp : MT := (6, yX6_camp, cX6_camp, 3, (some .int), false, k_KN_camp, [(45, [0, 1, 2])])
def m_KN_name : MT := (6, yX6_name, cX6_name, 3, (some .int), false, k_KN_name, [])
def m_KN_contract : MT := (6, yX6_contract, cX6_contract, 2, (some .int), false, k_KN_contract, [])
def m_KN_now : MT := (6, yX6_now, cX6_now, 2, (some .int), false, k_KN_now, [])
def m_KN_ties : MT := (6, yX6_ties, cX6_ties, 4, (some .int), false, k_KN_ties, [])
def m_KN_loosens : MT := (6, yX6_loosens, cX6_loosens, 4, (some .int), false, k_KN_loosens, [])
def m_KN_bends : MT := (6, yX6_bends, cX6_bends, 3, (some .int), false, k_KN_bends, [])
def m_KN_unties : MT := (6, yX6_unties, cX6_unties, 2, (some .int), false, k_KN_unties, [])
def m_KN_adds : MT := (6, yX6_adds, cX6_adds, 2, (some .int), false, k_KN_adds, [])
def m_KN_tears : MT := (6, yX6_tears, cX6_tears, 1, (some .int), false, k_KN_tears, [])
def m_KN_undo : MT := (6, yX6_undo, cX6_undo, 1, (some .int), false, k_KN_undo, [])
def m_KN_alike : MT := (6, yX6_alike, cX6_alike, 2, (some .int), false, k_KN_alike, [])
def m_KN_ring : MT := (6, yX6_ring, cX6_ring, 4, (some .int), false, k_KN_ring, [(17, [0, 1, 2, 3])])
def m_KN_way : MT := (6, yX6_way, cX6_way, 5, (some .int), false, k_KN_way, [])
def m_KN_root : MT := (6, yX6_root, cX6_root, 2, (some .int), false, k_KN_root, [])
def m_KN_order : MT := (6, yX6_order, cX6_order, 5, (some .int), false, k_KN_order, [(17, [0, 1, 2, 3])])
def m_KN_cold : MT := (6, yX6_cold, cX6_cold, 10, (some .long), false, k_KN_cold, [(93, [0, 1, 2, 3, 4, 5, 6, 7, 9])])
def m_KN_mixed : MT := (6, yX6_mixed, cX6_mixed, 7, (some .int), false, k_KN_mixed, [(38, [0, 1, 2, 3, 4, 5])])
def m_KN_newName : MT := (6, yX6_newName, cX6_newName, 4, (some .int), false, k_KN_newName, [])
def m_KN_pulls : MT := (6, yX6_pulls, cX6_pulls, 2, (some .int), false, k_KN_pulls, [])
def m_KN_lives : MT := (6, yX6_lives, cX6_lives, 2, (some .int), false, k_KN_lives, [])
def m_KN_next : MT := (6, yX6_next, cX6_next, 1, (some .int), false, k_KN_next, [])
def m_KN_porridge : MT := (6, yX6_porridge, cX6_porridge, 10, (some .int), false, k_KN_porridge, [(48, [0, 1, 2, 3, 4, 5, 7])])
def m_KN_share : MT := (6, yX6_share, cX6_share, 5, (some .int), false, k_KN_share, [])
def m_KN_rate : MT := (6, yX6_rate, cX6_rate, 3, (some .int), false, k_KN_rate, [])
def m_KN_keep : MT := (6, yX6_keep, cX6_keep, 2, (some .int), false, k_KN_keep, [])
def m_KN_back : MT := (6, yX6_back, cX6_back, 2, (some .int), false, k_KN_back, [])
def m_KN_count : MT := (6, yX6_count, cX6_count, 2, (some .int), false, k_KN_count, [])
def m_KN_trace : MT := (6, yX6_trace, cX6_trace, 1, (some .long), false, k_KN_trace, [])
def m_KN_asHerder : MT := (6, yX6_asHerder, cX6_asHerder, 2, (some .int), false, k_KN_asHerder, [])
def m_KN_asChief : MT := (6, yX6_asChief, cX6_asChief, 3, (some .int), false, k_KN_asChief, [])
def m_KN_asLiar : MT := (6, yX6_asLiar, cX6_asLiar, 2, (some .int), false, k_KN_asLiar, [])
def m_KN_asFist : MT := (6, yX6_asFist, cX6_asFist, 2, (some .int), false, k_KN_asFist, [])
def m_KN_asThief : MT := (6, yX6_asThief, cX6_asThief, 2, (some .int), false, k_KN_asThief, [])
def m_KN_asWidow : MT := (6, yX6_asWidow, cX6_asWidow, 2, (some .int), false, k_KN_asWidow, [])
def m_KN_isWithin : MT := (6, yX6_isWithin, cX6_isWithin, 3, (some .boolean), false, k_KN_isWithin, [])
def m_KN_isTurn : MT := (6, yX6_isTurn, cX6_isTurn, 1, (some .boolean), false, k_KN_isTurn, [])
def m_KN_undoing : MT := (6, yX6_undoing, cX6_undoing, 1, (some .int), false, k_KN_undoing, [])
def m_KN_lengthOrTurn : MT := (6, yX6_lengthOrTurn, cX6_lengthOrTurn, 2, (some .int), false, k_KN_lengthOrTurn, [])
def m_KN_takenFor : MT := (6, yX6_takenFor, cX6_takenFor, 3, (some .int), false, k_KN_takenFor, [])
def m_KN_power : MT := (6, yX6_power, cX6_power, 5, (some .long), false, k_KN_power, [(5, [0, 1, 2, 4])])
def m_KN_leastTerms : MT := (6, yX6_leastTerms, cX6_leastTerms, 7, (some .long), false, k_KN_leastTerms, [])
def m_KN_commonDivisor : MT := (6, yX6_commonDivisor, cX6_commonDivisor, 7, (some .long), false, k_KN_commonDivisor, [(3, [0, 2, 4])])
def m_KN_mostPairs : MT := (6, yX6_mostPairs, cX6_mostPairs, 5, (some .int), false, k_KN_mostPairs, [(12, [0, 1, 2, 3]), (30, [0, 1, 2, 3, 4])])
def m_KN_mostPairsWithin : MT := (6, yX6_mostPairsWithin, cX6_mostPairsWithin, 6, (some .int), false, k_KN_mostPairsWithin, [(17, [0, 1, 2, 3, 4, 5])])
def m_MD_init : MT := (7, yX7_init, cX7_init, 1, none, true, k_MD_init, [])
def m_MD_in : MT := (7, yX7_in, cX7_in, 6, (some .boolean), false, k_MD_in, [])
def m_MD_isTwo : MT := (7, yX7_isTwo, cX7_isTwo, 1, (some .boolean), false, k_MD_isTwo, [])
def m_MD_isTurn : MT := (7, yX7_isTurn, cX7_isTurn, 1, (some .boolean), false, k_MD_isTurn, [])
def m_MD_bits : MT := (7, yX7_bits, cX7_bits, 3, (some .int), false, k_MD_bits, [(4, [0, 1, 2])])
def m_MD_tie : MT := (7, yX7_tie, cX7_tie, 3, none, false, k_MD_tie, [])
def m_MD_tieRow : MT := (7, yX7_tieRow, cX7_tieRow, 4, none, false, k_MD_tieRow, [(2, [0, 1, 2, 3])])
def m_MD_tieName : MT := (7, yX7_tieName, cX7_tieName, 2, none, false, k_MD_tieName, [])
def m_MD_type : MT := (7, yX7_type, cX7_type, 2, (some .int), false, k_MD_type, [])
def m_MD_clear : MT := (7, yX7_clear, cX7_clear, 2, (some .int), false, k_MD_clear, [])
def m_MD_turnOf : MT := (7, yX7_turnOf, cX7_turnOf, 1, (some .int), false, k_MD_turnOf, [])
def m_MD_ahead : MT := (7, yX7_ahead, cX7_ahead, 1, (some .int), false, k_MD_ahead, [(0, [0])])
def m_MD_takesHerder : MT := (7, yX7_takesHerder, cX7_takesHerder, 5, (some .boolean), false, k_MD_takesHerder, [(42, [0, 1, 2, 3]), (120, [0, 1, 2, 3, 4])])
def m_MD_camp : MT := (7, yX7_camp, cX7_camp, 2, (some .int), false, k_MD_camp, [(2, [0, 1]), (28, [0, 1])])
def m_MD_copies : MT := (7, yX7_copies, cX7_copies, 5, none, false, k_MD_copies, [(3, [0, 1, 2, 3, 4])])
def m_MD_isHerder : MT := (7, yX7_isHerder, cX7_isHerder, 2, (some .boolean), false, k_MD_isHerder, [])
def m_MD_name : MT := (7, yX7_name, cX7_name, 3, (some .int), false, k_MD_name, [])
def m_MD_contract : MT := (7, yX7_contract, cX7_contract, 2, (some .int), false, k_MD_contract, [])
def m_MD_turnsOfAll : MT := (7, yX7_turnsOfAll, cX7_turnsOfAll, 3, (some .int), false, k_MD_turnsOfAll, [(4, [0, 1, 2])])
def m_MD_namesThere : MT := (7, yX7_namesThere, cX7_namesThere, 4, (some .int), false, k_MD_namesThere, [(4, [0, 1, 2])])
def m_MD_now : MT := (7, yX7_now, cX7_now, 4, (some .int), false, k_MD_now, [(36, [0, 1, 2, 3])])
def m_MD_remember : MT := (7, yX7_remember, cX7_remember, 2, none, false, k_MD_remember, [(11, [0, 1])])
def m_MD_names : MT := (7, yX7_names, cX7_names, 3, none, false, k_MD_names, [(15, [0, 1, 2])])
def m_MD_ties : MT := (7, yX7_ties, cX7_ties, 3, (some .int), false, k_MD_ties, [])
def m_MD_loosens : MT := (7, yX7_loosens, cX7_loosens, 4, (some .int), false, k_MD_loosens, [])
def m_MD_bends : MT := (7, yX7_bends, cX7_bends, 5, (some .int), false, k_MD_bends, [(46, [0, 1, 2, 3, 4]), (125, [0, 1, 2, 3, 4])])
def m_MD_unties : MT := (7, yX7_unties, cX7_unties, 3, (some .int), false, k_MD_unties, [])
def m_MD_adds : MT := (7, yX7_adds, cX7_adds, 2, (some .int), false, k_MD_adds, [])
def m_MD_tears : MT := (7, yX7_tears, cX7_tears, 3, (some .int), false, k_MD_tears, [(20, [0, 1, 2])])
def m_MD_undo : MT := (7, yX7_undo, cX7_undo, 1, (some .int), false, k_MD_undo, [])
def m_MD_turnAt : MT := (7, yX7_turnAt, cX7_turnAt, 3, (some .int), false, k_MD_turnAt, [])
def m_MD_unlike : MT := (7, yX7_unlike, cX7_unlike, 5, (some .int), false, k_MD_unlike, [(29, [0, 1, 2, 3, 4])])
def m_MD_nearTo : MT := (7, yX7_nearTo, cX7_nearTo, 5, (some .int), false, k_MD_nearTo, [(5, [0, 1, 2, 3, 4])])
def m_MD_alikeOf : MT := (7, yX7_alikeOf, cX7_alikeOf, 2, (some .int), false, k_MD_alikeOf, [])
def m_MD_alike : MT := (7, yX7_alike, cX7_alike, 2, (some .int), false, k_MD_alike, [])
def m_MD_ends : MT := (7, yX7_ends, cX7_ends, 4, (some .int), false, k_MD_ends, [(14, [0, 1, 2, 3])])
def m_MD_isRing : MT := (7, yX7_isRing, cX7_isRing, 9, (some .boolean), false, k_MD_isRing, [(64, [0, 1, 2, 3, 4, 5, 6, 7]), (82, [0, 1, 2, 3, 4, 5, 6, 7, 8])])
def m_MD_ring : MT := (7, yX7_ring, cX7_ring, 4, (some .int), false, k_MD_ring, [(14, [0, 1, 2, 3])])
def m_MD_way : MT := (7, yX7_way, cX7_way, 4, (some .int), false, k_MD_way, [(20, [0, 1, 2, 3])])
def m_MD_rootOf : MT := (7, yX7_rootOf, cX7_rootOf, 6, (some .int), false, k_MD_rootOf, [(12, [0, 1, 2, 3]), (33, [0, 1, 2, 3, 4, 5])])
def m_MD_root : MT := (7, yX7_root, cX7_root, 2, (some .int), false, k_MD_root, [])
def m_MD_isAhead : MT := (7, yX7_isAhead, cX7_isAhead, 4, (some .boolean), false, k_MD_isAhead, [(50, [0, 1, 2, 3])])
def m_MD_order : MT := (7, yX7_order, cX7_order, 4, (some .int), false, k_MD_order, [(14, [0, 1, 2, 3])])
def m_MD_least : MT := (7, yX7_least, cX7_least, 11, (some .long), false, k_MD_least, [(6, [0, 2, 4, 5, 7])])
def m_MD_cold : MT := (7, yX7_cold, cX7_cold, 12, (some .long), false, k_MD_cold, [(74, [0, 1, 2, 3, 4, 5, 7, 9])])
def m_MD_mixed : MT := (7, yX7_mixed, cX7_mixed, 3, (some .int), false, k_MD_mixed, [])
def m_MD_isNew : MT := (7, yX7_isNew, cX7_isNew, 9, (some .boolean), false, k_MD_isNew, [(8, [0, 1, 2, 3, 4, 5]), (44, [0, 1, 2, 3, 4, 5, 6]), (92, [0, 1, 2, 3, 4, 5, 6]), (112, [0, 1, 2, 3, 4, 5, 6, 7, 8])])
def m_MD_newName : MT := (7, yX7_newName, cX7_newName, 9, (some .int), false, k_MD_newName, [(47, [0, 1, 2, 3, 4, 5]), (79, [0, 1, 2, 3, 4, 5, 6, 7])])
def m_MD_mend : MT := (7, yX7_mend, cX7_mend, 9, (some .int), false, k_MD_mend, [(9, [0, 1, 2]), (16, [0, 1, 2, 3]), (58, [0, 1, 2, 3, 4, 5, 6])])
def m_MD_tieContract : MT := (7, yX7_tieContract, cX7_tieContract, 1, none, false, k_MD_tieContract, [])
def m_MD_pulls : MT := (7, yX7_pulls, cX7_pulls, 2, (some .int), false, k_MD_pulls, [])
def m_MD_isLife : MT := (7, yX7_isLife, cX7_isLife, 7, (some .boolean), false, k_MD_isLife, [(10, [0, 1, 2, 3, 4, 5]), (88, [0, 1, 2, 3, 4, 5]), (132, [0, 1, 2, 3, 4, 5, 6])])
def m_MD_layContract : MT := (7, yX7_layContract, cX7_layContract, 2, none, false, k_MD_layContract, [(14, [0, 1])])
def m_MD_lives : MT := (7, yX7_lives, cX7_lives, 8, (some .int), false, k_MD_lives, [(25, [0, 1, 2, 3, 4, 5, 6]), (44, [0, 1, 2, 3, 4, 5, 6, 7])])
def m_MD_next : MT := (7, yX7_next, cX7_next, 5, (some .int), false, k_MD_next, [(6, [0, 1]), (29, [0, 1, 2]), (44, [0, 1, 2, 3]), (61, [0, 1, 2, 3, 4]), (105, [0, 1, 2, 3])])
def m_MD_porridge : MT := (7, yX7_porridge, cX7_porridge, 14, (some .int), false, k_MD_porridge, [(55, [0, 1, 2, 3, 4, 5, 7, 9]), (78, [0, 1, 2, 3, 4, 5, 7, 9]), (97, [0, 1, 2, 3, 4, 5, 7, 9, 10, 12])])
def m_MD_share : MT := (7, yX7_share, cX7_share, 3, (some .int), false, k_MD_share, [])
def m_MD_rate : MT := (7, yX7_rate, cX7_rate, 6, (some .int), false, k_MD_rate, [])
def m_MD_keep : MT := (7, yX7_keep, cX7_keep, 2, (some .int), false, k_MD_keep, [])
def m_MD_back : MT := (7, yX7_back, cX7_back, 2, (some .int), false, k_MD_back, [])
def m_MD_count : MT := (7, yX7_count, cX7_count, 2, (some .int), false, k_MD_count, [])
def m_MD_trace : MT := (7, yX7_trace, cX7_trace, 1, (some .long), false, k_MD_trace, [])
def m_JInt_compare : MT := (9, yJ6_compare_7cf53, cJ6_compare_7cf53, 2, (some .int), false, k_JInt_compare, [])
def m_JInt_bitCount : MT := (9, yJ6_bitCount_0f7a4, cJ6_bitCount_0f7a4, 1, (some .int), false, k_JInt_bitCount, [])
def m_JStr_length : MT := (11, yJ0_length_8abf5, cJ0_length_8abf5, 1, (some .int), false, k_JStr_length, [])
def m_JStr_indexOf : MT := (11, yJ0_indexOf_0f7a4, cJ0_indexOf_0f7a4, 2, (some .int), false, k_JStr_indexOf, [])
def m_JStr_indexOf2 : MT := (11, yJ0_indexOf_7cf53, cJ0_indexOf_7cf53, 3, (some .int), false, k_JStr_indexOf2, [])
def m_JStr_coder : MT := (11, yJ0_coder_7d493, cJ0_coder_7d493, 1, (some .byte), false, k_JStr_coder, [])
def m_JStr_isLatin1 : MT := (11, yJ0_isLatin1_aae02, cJ0_isLatin1_aae02, 1, (some .boolean), false, k_JStr_isLatin1, [])
def m_JLat_canEncode : MT := (12, yJ1_canEncode_9a6ad, cJ1_canEncode_9a6ad, 1, (some .boolean), false, k_JLat_canEncode, [])
def m_JLat_indexOf : MT := (12, yJ1_indexOf_4cfef, cJ1_indexOf_4cfef, 4, (some .int), false, k_JLat_indexOf, [])
def m_JLat_indexOfChar : MT := (12, yJ1_indexOfChar_4cfef, cJ1_indexOfChar_4cfef, 6, (some .int), false, k_JLat_indexOfChar, [(7, [0, 1, 2, 3, 4, 5])])
def m_LAW_law : MT := (8, yL_law, cL_law, 4, (some .boolean), false, k_LAW_law, [(18, [0, 1, 2, 3])])
def mt_0 : List MT := [m_Camp_init, m_Camp_has, m_Camp_nameOf, m_Camp_empty, m_Camp_addHerder, m_Camp_tieLastHerder, m_Camp_become, m_Camp_turns, m_Camp_named, m_Camp_calledLike, m_Camp_unlikeNames, m_Lives_init, m_Lives_readBack, m_Lives_seek, m_Lives_note, m_Lives_inMost, m_NewN_init, m_NewN_find, m_NewN_spell, m_NewN_isFar]
def mt_1 : List MT := [m_Past_init, m_Past_remember, m_Past_takeBack, m_Past_forget, m_Row_init, m_Row_at, m_Row_last, m_Row_empty, m_Row_append, m_Row_dropLast, m_Row_endsUndoing, m_Row_takesTight, m_Row_appendTight, m_Row_appendAllTight, m_Row_appendAllUndoing, m_Row_become, m_Row_becomeTight, m_Row_becomeJoined, m_Row_isTight, m_Row_commonStart]
def mt_2 : List MT := [m_Row_isLike, m_Row_compareWith, m_Row_differences, m_Row_shortestRepeated, m_Row_repeats, m_Row_lostByBending, m_Row_isRingOf, m_Row_isRingBegunAt, m_Text_init, m_Text_append, m_Text_empty, m_Text_isTurnLetter, m_Text_fault, m_Text_tell, m_KN_init, m_KN_type, m_KN_clear, m_KN_camp, m_KN_name, m_KN_contract]
def mt_3 : List MT := [m_KN_now, m_KN_ties, m_KN_loosens, m_KN_bends, m_KN_unties, m_KN_adds, m_KN_tears, m_KN_undo, m_KN_alike, m_KN_ring, m_KN_way, m_KN_root, m_KN_order, m_KN_cold, m_KN_mixed, m_KN_newName, m_KN_pulls, m_KN_lives, m_KN_next, m_KN_porridge]
def mt_4 : List MT := [m_KN_share, m_KN_rate, m_KN_keep, m_KN_back, m_KN_count, m_KN_trace, m_KN_asHerder, m_KN_asChief, m_KN_asLiar, m_KN_asFist, m_KN_asThief, m_KN_asWidow, m_KN_isWithin, m_KN_isTurn, m_KN_undoing, m_KN_lengthOrTurn, m_KN_takenFor, m_KN_power, m_KN_leastTerms, m_KN_commonDivisor]
def mt_5 : List MT := [m_KN_mostPairs, m_KN_mostPairsWithin, m_MD_init, m_MD_in, m_MD_isTwo, m_MD_isTurn, m_MD_bits, m_MD_tie, m_MD_tieRow, m_MD_tieName, m_MD_type, m_MD_clear, m_MD_turnOf, m_MD_ahead, m_MD_takesHerder, m_MD_camp, m_MD_copies, m_MD_isHerder, m_MD_name, m_MD_contract]
def mt_6 : List MT := [m_MD_turnsOfAll, m_MD_namesThere, m_MD_now, m_MD_remember, m_MD_names, m_MD_ties, m_MD_loosens, m_MD_bends, m_MD_unties, m_MD_adds, m_MD_tears, m_MD_undo, m_MD_turnAt, m_MD_unlike, m_MD_nearTo, m_MD_alikeOf, m_MD_alike, m_MD_ends, m_MD_isRing, m_MD_ring]
def mt_7 : List MT := [m_MD_way, m_MD_rootOf, m_MD_root, m_MD_isAhead, m_MD_order, m_MD_least, m_MD_cold, m_MD_mixed, m_MD_isNew, m_MD_newName, m_MD_mend, m_MD_tieContract, m_MD_pulls, m_MD_isLife, m_MD_layContract, m_MD_lives, m_MD_next, m_MD_porridge, m_MD_share, m_MD_rate]
def mt_8 : List MT := [m_MD_keep, m_MD_back, m_MD_count, m_MD_trace, m_JInt_compare, m_JInt_bitCount, m_JStr_length, m_JStr_indexOf, m_JStr_indexOf2, m_JStr_coder, m_JStr_isLatin1, m_JLat_canEncode, m_JLat_indexOf, m_JLat_indexOfChar, m_LAW_law]
def mt : List MT := mt_0 ++ (mt_1 ++ (mt_2 ++ (mt_3 ++ (mt_4 ++ (mt_5 ++ (mt_6 ++ (mt_7 ++ (mt_8))))))))
abbrev i_Camp_init : Nat := 0
abbrev i_Camp_has : Nat := 1
abbrev i_Camp_nameOf : Nat := 2
abbrev i_Camp_empty : Nat := 3
abbrev i_Camp_addHerder : Nat := 4
abbrev i_Camp_tieLastHerder : Nat := 5
abbrev i_Camp_become : Nat := 6
abbrev i_Camp_turns : Nat := 7
abbrev i_Camp_named : Nat := 8
abbrev i_Camp_calledLike : Nat := 9
abbrev i_Camp_unlikeNames : Nat := 10
abbrev i_Lives_init : Nat := 11
abbrev i_Lives_readBack : Nat := 12
abbrev i_Lives_seek : Nat := 13
abbrev i_Lives_note : Nat := 14
abbrev i_Lives_inMost : Nat := 15
abbrev i_NewN_init : Nat := 16
abbrev i_NewN_find : Nat := 17
abbrev i_NewN_spell : Nat := 18
abbrev i_NewN_isFar : Nat := 19
abbrev i_Past_init : Nat := 20
abbrev i_Past_remember : Nat := 21
abbrev i_Past_takeBack : Nat := 22
abbrev i_Past_forget : Nat := 23
abbrev i_Row_init : Nat := 24
abbrev i_Row_at : Nat := 25
abbrev i_Row_last : Nat := 26
abbrev i_Row_empty : Nat := 27
abbrev i_Row_append : Nat := 28
abbrev i_Row_dropLast : Nat := 29
abbrev i_Row_endsUndoing : Nat := 30
abbrev i_Row_takesTight : Nat := 31
abbrev i_Row_appendTight : Nat := 32
abbrev i_Row_appendAllTight : Nat := 33
abbrev i_Row_appendAllUndoing : Nat := 34
abbrev i_Row_become : Nat := 35
abbrev i_Row_becomeTight : Nat := 36
abbrev i_Row_becomeJoined : Nat := 37
abbrev i_Row_isTight : Nat := 38
abbrev i_Row_commonStart : Nat := 39
abbrev i_Row_isLike : Nat := 40
abbrev i_Row_compareWith : Nat := 41
abbrev i_Row_differences : Nat := 42
abbrev i_Row_shortestRepeated : Nat := 43
abbrev i_Row_repeats : Nat := 44
abbrev i_Row_lostByBending : Nat := 45
abbrev i_Row_isRingOf : Nat := 46
abbrev i_Row_isRingBegunAt : Nat := 47
abbrev i_Text_init : Nat := 48
abbrev i_Text_append : Nat := 49
abbrev i_Text_empty : Nat := 50
abbrev i_Text_isTurnLetter : Nat := 51
abbrev i_Text_fault : Nat := 52
abbrev i_Text_tell : Nat := 53
abbrev i_KN_init : Nat := 54
abbrev i_KN_type : Nat := 55
abbrev i_KN_clear : Nat := 56
abbrev i_KN_camp : Nat := 57
abbrev i_KN_name : Nat := 58
abbrev i_KN_contract : Nat := 59
abbrev i_KN_now : Nat := 60
abbrev i_KN_ties : Nat := 61
abbrev i_KN_loosens : Nat := 62
abbrev i_KN_bends : Nat := 63
abbrev i_KN_unties : Nat := 64
abbrev i_KN_adds : Nat := 65
abbrev i_KN_tears : Nat := 66
abbrev i_KN_undo : Nat := 67
abbrev i_KN_alike : Nat := 68
abbrev i_KN_ring : Nat := 69
abbrev i_KN_way : Nat := 70
abbrev i_KN_root : Nat := 71
abbrev i_KN_order : Nat := 72
abbrev i_KN_cold : Nat := 73
abbrev i_KN_mixed : Nat := 74
abbrev i_KN_newName : Nat := 75
abbrev i_KN_pulls : Nat := 76
abbrev i_KN_lives : Nat := 77
abbrev i_KN_next : Nat := 78
abbrev i_KN_porridge : Nat := 79
abbrev i_KN_share : Nat := 80
abbrev i_KN_rate : Nat := 81
abbrev i_KN_keep : Nat := 82
abbrev i_KN_back : Nat := 83
abbrev i_KN_count : Nat := 84
abbrev i_KN_trace : Nat := 85
abbrev i_KN_asHerder : Nat := 86
abbrev i_KN_asChief : Nat := 87
abbrev i_KN_asLiar : Nat := 88
abbrev i_KN_asFist : Nat := 89
abbrev i_KN_asThief : Nat := 90
abbrev i_KN_asWidow : Nat := 91
abbrev i_KN_isWithin : Nat := 92
abbrev i_KN_isTurn : Nat := 93
abbrev i_KN_undoing : Nat := 94
abbrev i_KN_lengthOrTurn : Nat := 95
abbrev i_KN_takenFor : Nat := 96
abbrev i_KN_power : Nat := 97
abbrev i_KN_leastTerms : Nat := 98
abbrev i_KN_commonDivisor : Nat := 99
abbrev i_KN_mostPairs : Nat := 100
abbrev i_KN_mostPairsWithin : Nat := 101
abbrev i_MD_init : Nat := 102
abbrev i_MD_in : Nat := 103
abbrev i_MD_isTwo : Nat := 104
abbrev i_MD_isTurn : Nat := 105
abbrev i_MD_bits : Nat := 106
abbrev i_MD_tie : Nat := 107
abbrev i_MD_tieRow : Nat := 108
abbrev i_MD_tieName : Nat := 109
abbrev i_MD_type : Nat := 110
abbrev i_MD_clear : Nat := 111
abbrev i_MD_turnOf : Nat := 112
abbrev i_MD_ahead : Nat := 113
abbrev i_MD_takesHerder : Nat := 114
abbrev i_MD_camp : Nat := 115
abbrev i_MD_copies : Nat := 116
abbrev i_MD_isHerder : Nat := 117
abbrev i_MD_name : Nat := 118
abbrev i_MD_contract : Nat := 119
abbrev i_MD_turnsOfAll : Nat := 120
abbrev i_MD_namesThere : Nat := 121
abbrev i_MD_now : Nat := 122
abbrev i_MD_remember : Nat := 123
abbrev i_MD_names : Nat := 124
abbrev i_MD_ties : Nat := 125
abbrev i_MD_loosens : Nat := 126
abbrev i_MD_bends : Nat := 127
abbrev i_MD_unties : Nat := 128
abbrev i_MD_adds : Nat := 129
abbrev i_MD_tears : Nat := 130
abbrev i_MD_undo : Nat := 131
abbrev i_MD_turnAt : Nat := 132
abbrev i_MD_unlike : Nat := 133
abbrev i_MD_nearTo : Nat := 134
abbrev i_MD_alikeOf : Nat := 135
abbrev i_MD_alike : Nat := 136
abbrev i_MD_ends : Nat := 137
abbrev i_MD_isRing : Nat := 138
abbrev i_MD_ring : Nat := 139
abbrev i_MD_way : Nat := 140
abbrev i_MD_rootOf : Nat := 141
abbrev i_MD_root : Nat := 142
abbrev i_MD_isAhead : Nat := 143
abbrev i_MD_order : Nat := 144
abbrev i_MD_least : Nat := 145
abbrev i_MD_cold : Nat := 146
abbrev i_MD_mixed : Nat := 147
abbrev i_MD_isNew : Nat := 148
abbrev i_MD_newName : Nat := 149
abbrev i_MD_mend : Nat := 150
abbrev i_MD_tieContract : Nat := 151
abbrev i_MD_pulls : Nat := 152
abbrev i_MD_isLife : Nat := 153
abbrev i_MD_layContract : Nat := 154
abbrev i_MD_lives : Nat := 155
abbrev i_MD_next : Nat := 156
abbrev i_MD_porridge : Nat := 157
abbrev i_MD_share : Nat := 158
abbrev i_MD_rate : Nat := 159
abbrev i_MD_keep : Nat := 160
abbrev i_MD_back : Nat := 161
abbrev i_MD_count : Nat := 162
abbrev i_MD_trace : Nat := 163
abbrev i_JInt_compare : Nat := 164
abbrev i_JInt_bitCount : Nat := 165
abbrev i_JStr_length : Nat := 166
abbrev i_JStr_indexOf : Nat := 167
abbrev i_JStr_indexOf2 : Nat := 168
abbrev i_JStr_coder : Nat := 169
abbrev i_JStr_isLatin1 : Nat := 170
abbrev i_JLat_canEncode : Nat := 171
abbrev i_JLat_indexOf : Nat := 172
abbrev i_JLat_indexOfChar : Nat := 173
abbrev i_LAW_law : Nat := 174
def nmL : List String := ["KnotNames$Camp", "KnotNames$Lives", "KnotNames$NewNames", "KnotNames$Past", "KnotNames$Row", "KnotNames$Text", "KnotNames", "KnotNamesModel", "KnotNamesLaw", "java/lang/Integer", "java/lang/Math", "java/lang/String", "java/lang/StringLatin1", "java/lang/Object"]
def nm (i : Nat) : String := nmL.getD i ""
def fTL : List (List Nat) := [[2, 2, 0], [2, 2, 2, 2, 2, 0, 0], [2, 2, 0], [2, 0, 0], [2, 0], [2, 0], [2, 2, 2, 2, 2, 2, 2, 2, 2, 2, 2, 1], [0, 2, 2, 0, 2, 2, 2, 0, 1, 2, 0, 2, 0, 2, 2, 2, 2, 2, 0, 2]]
def fFL : List (List Bool) := [[true, true, false], [true, true, true, true, true, false, false], [true, true, false], [true, false, false], [true, false], [true, false], [true, true, true, true, true, true, true, true, true, true, true, false], [false, true, true, false, true, true, true, false, false, true, false, true, false, true, true, true, true, true, false, true]]
def fR_0 : List (Nat × Nat × Nat × Nat × Nat) := [(43, 4, 1, 1, 135), (11, 0, 0, 0, 143), (20, 0, 1, 0, 144), (24, 0, 2, 0, 147)]
def cR_0 : List (Nat × Nat × Nat × Nat × Nat × Nat) := [(3, 3, 0, 0, 0, 121), (17, 2, 24, 1, 1, 125), (32, 0, 27, 0, 1, 396), (36, 0, 32, 1, 1, 408), (28, 1, 92, 3, 1, 440), (50, 0, 9, 1, 0, 468), (46, 0, 40, 1, 1, 472), (39, 0, 35, 1, 1, 505)]
def fR_1 : List (Nat × Nat × Nat × Nat × Nat) := [(40, 0, 1, 1, 145), (57, 0, 2, 1, 148), (14, 1, 0, 0, 186), (20, 1, 1, 0, 187), (23, 1, 2, 0, 188), (27, 1, 3, 0, 189), (30, 1, 4, 0, 191), (33, 1, 5, 0, 192), (37, 1, 6, 0, 194)]
def cR_1 : List (Nat × Nat × Nat × Nat × Nat × Nat) := [(3, 3, 0, 0, 0, 183), (11, 2, 24, 1, 1, 185), (45, 0, 36, 1, 1, 688), (49, 0, 27, 0, 1, 689), (53, 1, 13, 4, 0, 690), (60, 0, 2, 1, 1, 693), (64, 0, 33, 1, 1, 694), (67, 0, 40, 1, 1, 695), (71, 0, 14, 1, 0, 696), (74, 0, 34, 1, 1, 700)]
def fR_2 : List (Nat × Nat × Nat × Nat × Nat) := [(69, 4, 1, 1, 134), (60, 0, 2, 1, 149), (14, 2, 0, 0, 220), (20, 2, 1, 0, 222), (23, 2, 2, 0, 223)]
def cR_2 : List (Nat × Nat × Nat × Nat × Nat × Nat) := [(3, 3, 0, 0, 0, 217), (11, 2, 24, 1, 1, 219), (27, 1, 97, 2, 1, 645), (31, 0, 18, 2, 0, 646), (47, 0, 27, 0, 1, 650), (51, 4, 0, 2, 0, 651), (57, 0, 28, 1, 1, 652), (35, 0, 38, 0, 1, 653), (39, 0, 19, 2, 0, 657), (65, 0, 2, 1, 1, 661), (72, 0, 42, 1, 1, 662), (43, 0, 35, 1, 1, 663)]
def fR_3 : List (Nat × Nat × Nat × Nat × Nat) := [(11, 3, 0, 0, 167), (17, 3, 1, 0, 168), (21, 3, 2, 0, 169)]
def cR_3 : List (Nat × Nat × Nat × Nat × Nat × Nat) := [(3, 3, 0, 0, 0, 163), (24, 2, 0, 0, 1, 166), (25, 0, 6, 1, 1, 501), (29, 5, 0, 2, 0, 509)]
def fR_4 : List (Nat × Nat × Nat × Nat × Nat) := [(21, 4, 0, 0, 132), (9, 4, 1, 0, 133)]
def cR_4 : List (Nat × Nat × Nat × Nat × Nat × Nat) := [(3, 3, 0, 0, 0, 128), (15, 4, 0, 2, 0, 129), (32, 0, 30, 1, 0, 412), (29, 1, 94, 1, 1, 416), (36, 0, 29, 0, 0, 419), (39, 0, 28, 1, 0, 423), (56, 0, 39, 1, 0, 476), (53, 5, 0, 2, 0, 480), (25, 0, 25, 1, 0, 481), (50, 0, 36, 1, 0, 528), (46, 0, 33, 1, 0, 532), (43, 0, 32, 1, 0, 536), (68, 0, 45, 0, 0, 573), (72, 0, 47, 5, 0, 577), (65, 0, 44, 1, 0, 594), (60, 1, 164, 2, 0, 606)]
def fR_5 : List (Nat × Nat × Nat × Nat × Nat) := [(9, 5, 0, 0, 107), (15, 5, 1, 0, 108)]
def cR_5 : List (Nat × Nat × Nat × Nat × Nat × Nat) := [(3, 3, 0, 0, 0, 106), (27, 1, 51, 1, 0, 300), (21, 0, 167, 1, 0, 304), (31, 0, 3, 0, 1, 392), (36, 0, 4, 0, 1, 400), (39, 0, 5, 1, 1, 404)]
def fR_6 : List (Nat × Nat × Nat × Nat × Nat) := [(84, 5, 1, 1, 109), (143, 4, 1, 1, 136), (116, 0, 1, 1, 146), (102, 0, 2, 1, 150), (128, 3, 2, 1, 170), (226, 1, 3, 1, 190), (223, 1, 5, 1, 193), (222, 1, 6, 1, 195), (210, 2, 0, 1, 221), (207, 2, 2, 1, 224), (10, 6, 0, 0, 236), (19, 6, 1, 0, 237), (26, 6, 2, 0, 238), (30, 6, 3, 0, 239), (34, 6, 4, 0, 240), (41, 6, 5, 0, 241), (48, 6, 6, 0, 242), (57, 6, 7, 0, 243), (61, 6, 8, 0, 244), (64, 6, 9, 0, 245), (69, 6, 10, 0, 246), (72, 6, 11, 0, 247)]
def cR_6 : List (Nat × Nat × Nat × Nat × Nat × Nat) := [(1, 3, 0, 0, 0, 98), (9, 2, 48, 0, 1, 103), (18, 2, 0, 0, 1, 118), (25, 2, 20, 0, 1, 160), (40, 2, 11, 0, 1, 180), (47, 2, 16, 0, 1, 214), (54, 2, 24, 1, 1, 233), (76, 1, 92, 3, 0, 277), (80, 0, 49, 1, 1, 280), (88, 0, 50, 0, 1, 288), (91, 0, 52, 0, 1, 296), (95, 0, 53, 1, 1, 388), (99, 0, 23, 0, 1, 427), (105, 0, 1, 1, 1, 436), (108, 0, 2, 1, 1, 441), (112, 1, 95, 2, 0, 445), (189, 0, 25, 1, 1, 448), (119, 0, 8, 0, 1, 460), (122, 0, 10, 0, 1, 464), (125, 0, 7, 0, 1, 482), (131, 1, 93, 1, 0, 490), (134, 0, 31, 1, 1, 493), (137, 0, 21, 1, 1, 497), (140, 0, 32, 1, 1, 510), (144, 0, 26, 0, 1, 515), (147, 0, 29, 0, 1, 519), (150, 0, 37, 2, 1, 524), (154, 0, 35, 1, 1, 537), (158, 0, 27, 0, 1, 542), (160, 0, 28, 1, 1, 547), (162, 0, 22, 1, 1, 556), (165, 0, 9, 1, 1, 564), (169, 0, 46, 1, 1, 569), (173, 0, 39, 1, 1, 585), (177, 0, 43, 0, 1, 590), (180, 0, 41, 1, 1, 602), (185, 1, 98, 3, 0, 614), (277, 1, 99, 2, 0, 617), (281, 7, 0, 2, 0, 620), (192, 1, 96, 3, 0, 623), (196, 1, 97, 2, 0, 626), (200, 0, 42, 1, 1, 633), (203, 0, 17, 3, 1, 641), (213, 0, 36, 1, 1, 668), (216, 0, 100, 1, 0, 669), (283, 5, 0, 2, 0, 673), (286, 0, 101, 3, 0, 674), (290, 1, 94, 1, 0, 678), (242, 4, 0, 2, 0, 679), (219, 0, 12, 1, 1, 684), (229, 0, 15, 0, 1, 708), (232, 1, 165, 1, 0, 716), (237, 6, 0, 1, 0, 722), (247, 0, 86, 1, 0, 734), (250, 0, 87, 1, 0, 738), (253, 0, 88, 1, 0, 743), (256, 0, 89, 1, 0, 748), (259, 0, 90, 1, 0, 753), (262, 0, 91, 1, 0, 758), (265, 0, 6, 1, 1, 767)]
def fR_7 : List (Nat × Nat × Nat × Nat × Nat) := [(92, 7, 0, 0, 786), (7, 7, 1, 0, 787), (13, 7, 2, 0, 788), (95, 7, 3, 0, 789), (16, 7, 4, 0, 790), (19, 7, 5, 0, 791), (23, 7, 6, 0, 792), (70, 7, 7, 0, 793), (190, 7, 8, 0, 794), (26, 7, 9, 0, 795), (56, 7, 10, 0, 796), (29, 7, 11, 0, 797), (73, 7, 12, 0, 798), (32, 7, 13, 0, 799), (35, 7, 14, 0, 800), (38, 7, 15, 0, 801), (41, 7, 16, 0, 802), (44, 7, 17, 0, 803), (176, 7, 18, 0, 804), (47, 7, 19, 0, 805)]
def cR_7 : List (Nat × Nat × Nat × Nat × Nat × Nat) := [(1, 3, 0, 0, 0, 785), (50, 1, 103, 3, 0, 852), (76, 0, 113, 0, 0, 863), (84, 0, 114, 1, 0, 867), (80, 1, 112, 1, 0, 871), (60, 0, 107, 1, 0, 874), (88, 1, 116, 4, 0, 878), (98, 0, 117, 1, 0, 885), (106, 0, 121, 0, 0, 898), (103, 0, 135, 1, 0, 902), (132, 0, 134, 2, 0, 906), (129, 0, 133, 2, 0, 910), (125, 0, 132, 2, 0, 915), (109, 0, 120, 0, 0, 919), (112, 1, 105, 1, 0, 927), (115, 0, 109, 1, 0, 931), (64, 0, 108, 2, 0, 935), (118, 0, 123, 0, 0, 939), (121, 0, 124, 1, 0, 943), (138, 0, 138, 2, 0, 979), (135, 0, 137, 1, 0, 983), (142, 0, 141, 1, 0, 995), (145, 0, 143, 2, 0, 1003), (150, 1, 104, 1, 0, 1012), (153, 1, 145, 3, 0, 1015), (161, 0, 148, 3, 0, 1028), (167, 0, 151, 0, 0, 1037), (170, 0, 150, 0, 0, 1041), (179, 0, 154, 0, 0, 1049), (182, 0, 153, 2, 0, 1053), (173, 1, 106, 1, 0, 1057)]
def fR_8 : List (Nat × Nat × Nat × Nat × Nat) := []
def cR_8 : List (Nat × Nat × Nat × Nat × Nat × Nat) := [(9, 2, 54, 0, 0, 95), (13, 0, 55, 1, 0, 273), (18, 0, 56, 0, 0, 284), (23, 0, 57, 0, 0, 292), (27, 0, 58, 2, 0, 432), (32, 0, 59, 1, 0, 452), (36, 0, 60, 1, 0, 456), (40, 0, 61, 2, 0, 486), (44, 0, 62, 1, 0, 511), (48, 0, 63, 2, 0, 520), (52, 0, 64, 1, 0, 538), (56, 0, 65, 1, 0, 543), (60, 0, 66, 0, 0, 548), (64, 0, 67, 0, 0, 552), (68, 0, 68, 1, 0, 560), (72, 0, 69, 1, 0, 565), (76, 0, 70, 2, 0, 581), (80, 0, 71, 1, 0, 586), (84, 0, 72, 1, 0, 598), (88, 0, 73, 4, 0, 609), (93, 0, 74, 2, 0, 629), (97, 0, 75, 3, 0, 637), (102, 0, 76, 1, 0, 664), (106, 0, 77, 1, 0, 680), (110, 0, 78, 0, 0, 704), (114, 0, 79, 4, 0, 712), (119, 0, 80, 2, 0, 725), (123, 0, 81, 2, 0, 729), (127, 0, 82, 1, 0, 763), (131, 0, 83, 1, 0, 768), (135, 0, 84, 1, 0, 772), (139, 0, 85, 0, 0, 776), (12, 2, 102, 0, 0, 782), (17, 0, 110, 1, 0, 847), (22, 0, 111, 0, 0, 855), (26, 0, 115, 0, 0, 859), (31, 0, 118, 2, 0, 881), (35, 0, 119, 1, 0, 890), (39, 0, 122, 1, 0, 894), (43, 0, 125, 2, 0, 923), (47, 0, 126, 1, 0, 947), (51, 0, 127, 2, 0, 951), (55, 0, 128, 1, 0, 955), (59, 0, 129, 1, 0, 959), (63, 0, 130, 0, 0, 963), (67, 0, 131, 0, 0, 967), (71, 0, 136, 1, 0, 971), (75, 0, 139, 1, 0, 975), (79, 0, 140, 2, 0, 987), (83, 0, 142, 1, 0, 991), (87, 0, 144, 1, 0, 999), (92, 0, 146, 4, 0, 1007), (96, 0, 147, 2, 0, 1018), (101, 0, 149, 3, 0, 1023), (105, 0, 152, 1, 0, 1032), (109, 0, 155, 1, 0, 1045), (113, 0, 156, 0, 0, 1060), (118, 0, 157, 4, 0, 1064), (122, 0, 158, 2, 0, 1069), (126, 0, 159, 2, 0, 1074), (130, 0, 160, 1, 0, 1083), (134, 0, 161, 1, 0, 1087), (138, 0, 162, 1, 0, 1091), (143, 0, 163, 0, 0, 1095)]
def fR_9 : List (Nat × Nat × Nat × Nat × Nat) := []
def cR_9 : List (Nat × Nat × Nat × Nat × Nat × Nat) := []
def fR_10 : List (Nat × Nat × Nat × Nat × Nat) := []
def cR_10 : List (Nat × Nat × Nat × Nat × Nat × Nat) := []
def fR_11 : List (Nat × Nat × Nat × Nat × Nat) := [(15, 20, 1, 0, 1099), (9, 20, 0, 0, 1100)]
def cR_11 : List (Nat × Nat × Nat × Nat × Nat × Nat) := [(633, 0, 168, 2, 0, 308), (492, 0, 170, 0, 0, 312), (505, 0, 166, 0, 0, 318), (335, 0, 169, 0, 0, 322), (637, 1, 172, 4, 0, 326)]
def fR_12 : List (Nat × Nat × Nat × Nat × Nat) := []
def cR_12 : List (Nat × Nat × Nat × Nat × Nat × Nat) := [(88, 1, 171, 1, 0, 329), (92, 4, 0, 2, 0, 332), (38, 5, 0, 2, 0, 333), (95, 1, 173, 4, 0, 336)]
def fR_13 : List (Nat × Nat × Nat × Nat × Nat) := []
def cR_13 : List (Nat × Nat × Nat × Nat × Nat × Nat) := []
/-- fields by pool number: (number, (class, field, of a nest mate, place of the word)) -/
def fRs : List (List (Nat × Nat × Nat × Nat × Nat)) := [fR_0, fR_1, fR_2, fR_3, fR_4, fR_5, fR_6, fR_7, fR_8, fR_9, fR_10, fR_11, fR_12, fR_13]
/-- methods by pool number: (number, (kind, method, arguments, of a nest mate, place of the word)); kind 0 virtual, 1 static, 2 a constructor, 3 that of Object -/
def cRs : List (List (Nat × Nat × Nat × Nat × Nat × Nat)) := [cR_0, cR_1, cR_2, cR_3, cR_4, cR_5, cR_6, cR_7, cR_8, cR_9, cR_10, cR_11, cR_12, cR_13]
def kR : List (Nat × Nat × Nat × Nat) := [(8, 7, 6, 93), (6, 7, 5, 101), (6, 16, 0, 116), (0, 9, 4, 122), (6, 23, 3, 158), (3, 9, 0, 164), (6, 38, 1, 178), (1, 9, 4, 184), (6, 45, 2, 212), (2, 9, 4, 218), (6, 52, 4, 232), (6, 67, 16, 234), (8, 10, 7, 780)]
def iR : List (Nat × Nat × Int32 × Nat) := [(9, 265, 1431655765, 719), (9, 266, 858993459, 720), (9, 267, 252645135, 721), (6, 246, -1000000, 733), (7, 124, 1000000, 914), (7, 189, -1000000, 1078)]
def lR : List (Nat × Nat × Int64 × Nat) := [(6, 183, -1, 613), (6, 267, 10, 742), (6, 269, 100, 747), (6, 271, 1000, 752), (6, 273, 10000, 757), (6, 275, 100000, 762), (7, 68, 255, 851), (7, 101, -1, 889), (7, 54, 5, 930), (7, 148, 10, 1011), (7, 157, 12, 1022), (7, 159, 4, 1027), (7, 165, 3, 1036), (7, 185, 6, 1068), (7, 187, 99, 1073), (7, 194, 100, 1079), (7, 196, 1010, 1080), (7, 198, 10100, 1081), (7, 200, 100000, 1082)]
end
section
/-! ===== the pure machine: a memory of typed planes by pure address, one step, a run ===== -/
abbrev LV : Type := List (Nat × Value)
/-- cells made, slots made, kind of a cell, length, ints, longs, references (999999: null) -/
abbrev Mem : Type := Nat × Nat × (Nat → Nat) × (Nat → Nat) × (Nat → Nat → Int32) × (Nat → Nat → Int64) × (Nat → Nat → Nat)
def mN (M : Mem) : Nat := M.1
def mS (M : Mem) : Nat := M.2.1
def mC (M : Mem) : Nat → Nat := M.2.2.1
def mL (M : Mem) : Nat → Nat := M.2.2.2.1
def mI (M : Mem) : Nat → Nat → Int32 := M.2.2.2.2.1
def mJ (M : Mem) : Nat → Nat → Int64 := M.2.2.2.2.2.1
def mR (M : Mem) : Nat → Nat → Nat := M.2.2.2.2.2.2
def up2 {α : Type} (f : Nat → Nat → α) (a k : Nat) (v : α) : Nat → Nat → α := fun b j => if b = a ∧ j = k then v else f b j
def setI (M : Mem) (a k : Nat) (v : Int32) : Mem := (mN M, mS M, mC M, mL M, up2 (mI M) a k v, mJ M, mR M)
def setJ (M : Mem) (a k : Nat) (v : Int64) : Mem := (mN M, mS M, mC M, mL M, mI M, up2 (mJ M) a k v, mR M)
def setR (M : Mem) (a k : Nat) (v : Nat) : Mem := (mN M, mS M, mC M, mL M, mI M, mJ M, up2 (mR M) a k v)
def fresh (M : Mem) (tag len sl : Nat) : Mem := (mN M + 1, mS M + sl, va_up (mC M) (mN M) tag, va_up (mL M) (mN M) len,
  (fun b j => if b = mN M then 0 else mI M b j), (fun b j => if b = mN M then 0 else mJ M b j), (fun b j => if b = mN M then 999999 else mR M b j))
def rows : Nat → Nat → Mem → Mem
  | 0, _, M => M
  | j + 1, k, M => rows j k (fresh M 10 k k)
def grid (M : Mem) (n k : Nat) : Mem := match rows n k (fresh M 16 n n) with
  | (a, b, c, d, e, f, g) => (a, b, c, d, e, f, fun x j => if x = mN M ∧ j < n then mN M + 1 + j else g x j)
def lvG : LV → Nat → Option Value
  | [], _ => none
  | (j, v) :: r, i => if j = i then some v else lvG r i
def lvI : LV → Nat → Value → LV
  | [], i, v => [(i, v)]
  | (j, w) :: r, i, v => if i < j then (i, v) :: (j, w) :: r else (j, w) :: lvI r i v
def lvS (lv : LV) (i : Nat) (v : Value) : LV := lvI (lv.filter (fun q => !(q.1 == i) && (!(q.1 == i + 1 && v.category == 2) && !(q.1 + 1 == i && q.2.category == 2)))) i v
def lvK (ks : List Nat) (lv : LV) : LV := lv.filter (fun q => ks.contains q.1)
def asc {β : Type} : List (Nat × β) → Nat → Option β
  | [], _ => none
  | (j, b) :: r, i => if j = i then some b else asc r i
def asc2 {β : Type} : List (Nat × Nat × β) → Nat → Nat → Option β
  | [], _, _ => none
  | (o, j, b) :: r, x, i => if o = x ∧ j = i then some b else asc2 r x i
def fRes (o idx : Nat) : Option (Nat × Nat × Nat × Nat) := asc (fRs.getD o []) idx
def cRes (o idx : Nat) : Option (Nat × Nat × Nat × Nat × Nat) := asc (cRs.getD o []) idx
def fT (ci k : Nat) : Nat := if ci = 20 then (if k = 0 then 2 else 0) else (fTL.getD ci []).getD k 9
def fF (ci k : Nat) : Bool := (fFL.getD ci []).getD k true
def nf (ci : Nat) : Nat := (fTL.getD ci []).length
def pI {α : Type} (F : α) (st : List Value) (k : Int32 → List Value → α) : α := match st with
  | .int x :: r => k x r
  | _ => F
def pII {α : Type} (F : α) (st : List Value) (k : Int32 → Int32 → List Value → α) : α := match st with
  | .int y :: .int x :: r => k x y r
  | _ => F
def pL {α : Type} (F : α) (st : List Value) (k : Int64 → List Value → α) : α := match st with
  | .long x :: r => k x r
  | _ => F
def pLL {α : Type} (F : α) (st : List Value) (k : Int64 → Int64 → List Value → α) : α := match st with
  | .long y :: .long x :: r => k x y r
  | _ => F
def pR {α : Type} (F : α) (st : List Value) (k : Nat → List Value → α) : α := match st with
  | .ref a :: r => k a r
  | _ => F
def pIR {α : Type} (F : α) (st : List Value) (k : Nat → Int32 → List Value → α) : α := match st with
  | .int i :: .ref a :: r => k a i r
  | _ => F
def pLR {α : Type} (F : α) (st : List Value) (k : Nat → Int64 → List Value → α) : α := match st with
  | .long i :: .ref a :: r => k a i r
  | _ => F
def pRR {α : Type} (F : α) (st : List Value) (k : Nat → Nat → List Value → α) : α := match st with
  | .ref v :: .ref a :: r => k a v r
  | _ => F
def pIIR {α : Type} (F : α) (st : List Value) (k : Nat → Int32 → Int32 → List Value → α) : α := match st with
  | .int x :: .int i :: .ref a :: r => k a i x r
  | _ => F
def pRIR {α : Type} (F : α) (st : List Value) (k : Nat → Int32 → Nat → List Value → α) : α := match st with
  | .ref v :: .int i :: .ref a :: r => k a i v r
  | _ => F
def gI {α : Type} (F : α) (lv : LV) (i : Nat) (k : Int32 → α) : α := match lvG lv i with
  | some (.int x) => k x
  | _ => F
def gL {α : Type} (F : α) (lv : LV) (i : Nat) (k : Int64 → α) : α := match lvG lv i with
  | some (.long x) => k x
  | _ => F
def gR {α : Type} (F : α) (lv : LV) (i : Nat) (k : Nat → α) : α := match lvG lv i with
  | some (.ref x) => k x
  | _ => F
def popN : Nat → List Value → List Value → Option (List Value × List Value)
  | 0, acc, st => some (acc, st)
  | _ + 1, _, [] => none
  | n + 1, acc, v :: r => popN n (v :: acc) r
abbrev inb (i : Int32) (n : Nat) : Prop := ¬ (i < 0 ∨ n ≤ i.toNatClampNeg)
abbrev rdI (t : Nat) : Prop := t = 10 ∨ t = 17
abbrev rdB (t : Nat) : Prop := t = 12 ∨ t = 13
abbrev rdA (t : Nat) : Prop := t = 14 ∨ t = 15 ∨ t = 16
abbrev isA (t : Nat) : Prop := t = 10 ∨ t = 11 ∨ t = 12 ∨ t = 13 ∨ t = 14 ∨ t = 15 ∨ t = 16 ∨ t = 17
def jmp {α : Type} (F : α) (pc : Nat) (off : Int) (k : Nat → α) : α := if 0 ≤ (pc : Int) + off then k ((pc : Int) + off).toNat else F
def swt {α : Type} (k : Int → α) (dflt : Int) : List Int → Int → Int → α
  | [], _, _ => k dflt
  | o :: r, lo, x => if x = lo then k o else swt k dflt r (lo + 1) x
def swl {α : Type} (k : Int → α) (dflt : Int) : List (Int × Int) → Int → α
  | [], _ => k dflt
  | (a, o) :: r, x => if x = a then k o else swl k dflt r x
section Step
variable {α : Type} (F : α) (K : Nat → LV → List Value → Mem → α) (C : Nat → List Value → List Value → Nat → α) (T : Option Value → α) (d o mxl : Nat) (rt : Option FieldType) (ini : Bool) (pc : Nat) (lv : LV) (st : List Value) (M : Mem)
/-- constants, loads, stores, the stack -/
def stA (i : Instr) : α := match i with
  | .iconst n => K (pc + 1) lv (.int (Int32.ofInt n) :: st) M
  | .bipush n => K (pc + 2) lv (.int (Int8.ofInt n).toInt32 :: st) M
  | .sipush n => K (pc + 3) lv (.int (Int16.ofInt n).toInt32 :: st) M
  | .lconst n => K (pc + 1) lv (.long (Int64.ofNat (n : Nat)) :: st) M
  | .iload_n n => gI F lv n (fun x => K (pc + 1) lv (.int x :: st) M)
  | .iload n => gI F lv n (fun x => K (pc + 2) lv (.int x :: st) M)
  | .lload_n n => gL F lv n (fun x => K (pc + 1) lv (.long x :: st) M)
  | .lload n => gL F lv n (fun x => K (pc + 2) lv (.long x :: st) M)
  | .aload_n n => gR F lv n (fun x => K (pc + 1) lv (.ref x :: st) M)
  | .aload n => gR F lv n (fun x => K (pc + 2) lv (.ref x :: st) M)
  | .istore_n n => if (n : Nat) < mxl then pI F st (fun x r => K (pc + 1) (lvS lv n (.int x)) r M) else F
  | .istore n => if n < mxl then pI F st (fun x r => K (pc + 2) (lvS lv n (.int x)) r M) else F
  | .lstore_n n => if (n : Nat) + 1 < mxl then pL F st (fun x r => K (pc + 1) (lvS lv n (.long x)) r M) else F
  | .lstore n => if n + 1 < mxl then pL F st (fun x r => K (pc + 2) (lvS lv n (.long x)) r M) else F
  | .astore_n n => if (n : Nat) < mxl then pR F st (fun x r => K (pc + 1) (lvS lv n (.ref x)) r M) else F
  | .astore n => if n < mxl then pR F st (fun x r => K (pc + 2) (lvS lv n (.ref x)) r M) else F
  | .iinc n c => if n < mxl then gI F lv n (fun x => K (pc + 3) (lvS lv n (.int (x + Int32.ofInt c))) st M) else F
  | .dup => (match st with
    | .int x :: r => K (pc + 1) lv (.int x :: .int x :: r) M
    | .ref x :: r => K (pc + 1) lv (.ref x :: .ref x :: r) M
    | _ => F)
  | .dup2 => (match st with
    | .int x :: .ref y :: r => K (pc + 1) lv (.int x :: .ref y :: .int x :: .ref y :: r) M
    | _ => F)
  | .pop => (match st with
    | .int _ :: r => K (pc + 1) lv r M
    | .ref _ :: r => K (pc + 1) lv r M
    | _ => F)
  | .ldc n => (match asc2 iR o n with
    | some v => K (pc + 2) lv (.int v.1 :: st) M
    | none => if o = 5 ∧ n = 19 then K (pc + 2) lv (.ref 1000001 :: st) M else F)
  | .ldc_w n => (match asc2 iR o n with
    | some v => K (pc + 3) lv (.int v.1 :: st) M
    | none => F)
  | .ldc2_w n => (match asc2 lR o n with
    | some v => K (pc + 3) lv (.long v.1 :: st) M
    | none => F)
  | _ => F
/-- arithmetic -/
def stB (i : Instr) : α := match i with
  | .iadd => pII F st (fun x y r => K (pc + 1) lv (.int (x + y) :: r) M)
  | .isub => pII F st (fun x y r => K (pc + 1) lv (.int (x - y) :: r) M)
  | .imul => pII F st (fun x y r => K (pc + 1) lv (.int (x * y) :: r) M)
  | .iand => pII F st (fun x y r => K (pc + 1) lv (.int (x &&& y) :: r) M)
  | .ior => pII F st (fun x y r => K (pc + 1) lv (.int (x ||| y) :: r) M)
  | .ixor => pII F st (fun x y r => K (pc + 1) lv (.int (x ^^^ y) :: r) M)
  | .ishl => pII F st (fun x y r => K (pc + 1) lv (.int (x <<< (y &&& 31)) :: r) M)
  | .ishr => pII F st (fun x y r => K (pc + 1) lv (.int (x >>> (y &&& 31)) :: r) M)
  | .iushr => pII F st (fun x y r => K (pc + 1) lv (.int (x.toUInt32 >>> (y.toUInt32 &&& Int32.toUInt32 31)).toInt32 :: r) M)
  | .idiv => pII F st (fun x y r => if y = 0 then F else K (pc + 1) lv (.int (x / y) :: r) M)
  | .irem => pII F st (fun x y r => if y = 0 then F else K (pc + 1) lv (.int (x - x / y * y) :: r) M)
  | .ineg => pI F st (fun x r => K (pc + 1) lv (.int (-x) :: r) M)
  | .ladd => pLL F st (fun x y r => K (pc + 1) lv (.long (x + y) :: r) M)
  | .lmul => pLL F st (fun x y r => K (pc + 1) lv (.long (x * y) :: r) M)
  | .ldiv => pLL F st (fun x y r => if y = 0 then F else K (pc + 1) lv (.long (x / y) :: r) M)
  | .lrem => pLL F st (fun x y r => if y = 0 then F else K (pc + 1) lv (.long (x - x / y * y) :: r) M)
  | .lcmp => pLL F st (fun x y r => K (pc + 1) lv (.int (lg_cmp x y) :: r) M)
  | .i2l => pI F st (fun x r => K (pc + 1) lv (.long x.toInt64 :: r) M)
  | .l2i => pL F st (fun x r => K (pc + 1) lv (.int x.toInt32 :: r) M)
  | .i2b => pI F st (fun x r => K (pc + 1) lv (.int x.toInt8.toInt32 :: r) M)
  | .i2c => pI F st (fun x r => K (pc + 1) lv (.int (x.toUInt32 % 65536).toInt32 :: r) M)
  | _ => F
/-- jumps -/
def stJ (i : Instr) : α := match i with
  | .goto off => jmp F pc off (fun t => K t lv st M)
  | .if_icmp c off => pII F st (fun x y r => jmp F pc off (fun t => match c with
    | .eq => if x = y then K t lv r M else K (pc + 3) lv r M
    | .ne => if x = y then K (pc + 3) lv r M else K t lv r M
    | .lt => if x < y then K t lv r M else K (pc + 3) lv r M
    | .ge => if x < y then K (pc + 3) lv r M else K t lv r M
    | .gt => if y < x then K t lv r M else K (pc + 3) lv r M
    | .le => if y < x then K (pc + 3) lv r M else K t lv r M))
  | .ifCond c off => pI F st (fun x r => jmp F pc off (fun t => match c with
    | .eq => if x = 0 then K t lv r M else K (pc + 3) lv r M
    | .ne => if x = 0 then K (pc + 3) lv r M else K t lv r M
    | .lt => if x < 0 then K t lv r M else K (pc + 3) lv r M
    | .ge => if x < 0 then K (pc + 3) lv r M else K t lv r M
    | .gt => if 0 < x then K t lv r M else K (pc + 3) lv r M
    | .le => if 0 < x then K (pc + 3) lv r M else K t lv r M))
  | .tableswitch dflt lo hi offs => if hi = lo + (offs.size : Int) - 1 then pI F st (fun x r => swt (fun off => jmp F pc off (fun t => K t lv r M)) dflt offs.toList lo x.toInt) else F
  | .lookupswitch dflt ps => if (ps.toList.zip (ps.toList.drop 1)).all (fun (a, next) => a.1 < next.1) = true then pI F st (fun x r => swl (fun off => jmp F pc off (fun t => K t lv r M)) dflt ps.toList x.toInt) else F
  | _ => F
/-- the heap -/
def stH (i : Instr) : α := match i with
  | .getfield n => (match fRes o n with
    | some (ci, k, _, _) => pR F st (fun a r => if mC M a = ci then (match fT ci k with
      | 0 => K (pc + 3) lv (.int (mI M a k) :: r) M
      | 1 => K (pc + 3) lv (.long (mJ M a k) :: r) M
      | 2 => if mR M a k = 999999 then F else K (pc + 3) lv (.ref (mR M a k) :: r) M
      | _ => F) else F)
    | none => F)
  | .putfield n => (match fRes o n with
    | some (ci, k, _, _) => if ci < 8 ∧ (fF ci k = false ∨ (ini = true ∧ o = ci)) then (match fT ci k with
      | 0 => pIR F st (fun a x r => if mC M a = ci then K (pc + 3) lv r (setI M a k x) else F)
      | 1 => pLR F st (fun a x r => if mC M a = ci then K (pc + 3) lv r (setJ M a k x) else F)
      | 2 => pRR F st (fun a x r => if mC M a = ci ∧ x < 900000 then K (pc + 3) lv r (setR M a k x) else F)
      | _ => F) else F
    | none => F)
  | .getstatic n => if o = 11 ∧ n = 38 then K (pc + 3) lv (.int 1 :: st) M else F
  | .arraylength => pR F st (fun a r => if isA (mC M a) then K (pc + 1) lv (.int (nI (mL M a)) :: r) M else F)
  | .iaload => pIR F st (fun a x r => if rdI (mC M a) ∧ inb x (mL M a) then K (pc + 1) lv (.int (mI M a x.toNatClampNeg) :: r) M else F)
  | .caload => pIR F st (fun a x r => if mC M a = 11 ∧ inb x (mL M a) then K (pc + 1) lv (.int (mI M a x.toNatClampNeg) :: r) M else F)
  | .baload => pIR F st (fun a x r => if rdB (mC M a) ∧ inb x (mL M a) then K (pc + 1) lv (.int (mI M a x.toNatClampNeg) :: r) M else F)
  | .aaload => pIR F st (fun a x r => if (rdA (mC M a) ∧ inb x (mL M a)) ∧ mR M a x.toNatClampNeg ≠ 999999 then K (pc + 1) lv (.ref (mR M a x.toNatClampNeg) :: r) M else F)
  | .iastore => pIIR F st (fun a x v r => if mC M a = 10 ∧ inb x (mL M a) then K (pc + 1) lv r (setI M a x.toNatClampNeg v) else F)
  | .castore => pIIR F st (fun a x v r => if mC M a = 11 ∧ inb x (mL M a) then K (pc + 1) lv r (setI M a x.toNatClampNeg (vp_nar .char v)) else F)
  | .bastore => pIIR F st (fun a x v r => if mC M a = 12 ∧ inb x (mL M a) then K (pc + 1) lv r (setI M a x.toNatClampNeg (vp_nar .boolean v)) else F)
  | .aastore => pRIR F st (fun a x v r => if ((mC M a = 14 ∧ mC M v = 4) ∨ (mC M a = 15 ∧ mC M v = 0)) ∧ inb x (mL M a) then K (pc + 1) lv r (setR M a x.toNatClampNeg v) else F)
  | .new n => (match asc2 kR o n with
    | some q => if mN M < 800000 ∧ q.1 < 8 then K (pc + 3) lv (.ref (mN M) :: st) (fresh M q.1 0 (nf q.1)) else F
    | none => F)
  | .newarray t => pI F st (fun x r => if mN M < 800000 ∧ (¬ x < 0 ∧ x.toNatClampNeg ≤ 1000) then (match t with
    | .int => K (pc + 2) lv (.ref (mN M) :: r) (fresh M 10 x.toNatClampNeg x.toNatClampNeg)
    | .char => K (pc + 2) lv (.ref (mN M) :: r) (fresh M 11 x.toNatClampNeg x.toNatClampNeg)
    | .boolean => K (pc + 2) lv (.ref (mN M) :: r) (fresh M 12 x.toNatClampNeg x.toNatClampNeg)
    | _ => F) else F)
  | .anewarray n => (match asc2 kR o n with
    | some q => pI F st (fun x r => if mN M < 800000 ∧ (¬ x < 0 ∧ x.toNatClampNeg ≤ 1000) then (match q.1 with
      | 0 => K (pc + 3) lv (.ref (mN M) :: r) (fresh M 15 x.toNatClampNeg x.toNatClampNeg)
      | 4 => K (pc + 3) lv (.ref (mN M) :: r) (fresh M 14 x.toNatClampNeg x.toNatClampNeg)
      | _ => F) else F)
    | none => F)
  | .multianewarray n dm => if o = 6 ∧ n = 67 ∧ dm = 2 then pII F st (fun x y r => if mN M < 800000 ∧ (¬ x < 0 ∧ x.toNatClampNeg ≤ 1000) ∧ (¬ y < 0 ∧ y.toNatClampNeg ≤ 1000) then K (pc + 4) lv (.ref (mN M) :: r) (grid M x.toNatClampNeg y.toNatClampNeg) else F) else F
  | _ => F
def tagOf (c : Nat) : Nat := if c = 11 then 20 else c
/-- calls -/
def stV (i : Instr) : α := match i with
  | .invokevirtual n => (match cRes o n with
    | some (0, cm, na, _, _) => (match popN (na + 1) [] st with
      | some (.ref a :: As, rest) => if (rest.map fun v => v.category).sum ≤ 8 ∧ ((Value.ref a :: As).map fun v => v.category).sum ≤ (mt.getD cm m_LAW_law).2.2.2.1 then (if mC M a = tagOf (mt.getD cm m_LAW_law).1 then C cm (.ref a :: As) rest (pc + 3) else F) else F
      | _ => F)
    | _ => F)
  | .invokestatic n => (match cRes o n with
    | some (1, cm, na, _, _) => (match popN na [] st with
      | some (As, rest) => if (rest.map fun v => v.category).sum ≤ 8 ∧ (As.map fun v => v.category).sum ≤ (mt.getD cm m_LAW_law).2.2.2.1 then C cm As rest (pc + 3) else F
      | none => F)
    | some (4, _, _, _, _) => pII F st (fun x y r => if d = 0 then F else if (r.map fun v => v.category).sum ≤ 8 then K (pc + 3) lv (.int (if x < y then y else x) :: r) M else F)
    | some (5, _, _, _, _) => pII F st (fun x y r => if d = 0 then F else if (r.map fun v => v.category).sum ≤ 8 then K (pc + 3) lv (.int (if y < x then y else x) :: r) M else F)
    | some (6, _, _, _, _) => pI F st (fun x r => if d = 0 then F else if (r.map fun v => v.category).sum ≤ 8 then K (pc + 3) lv (.int (if 0 ≤ x then x else 0 - x) :: r) M else F)
    | some (7, _, _, _, _) => pLL F st (fun x y r => if d = 0 then F else if (r.map fun v => v.category).sum ≤ 8 then K (pc + 3) lv (.long (if y < x then x else y) :: r) M else F)
    | _ => F)
  | .invokespecial n => (match cRes o n with
    | some (2, cm, na, _, _) => (match popN (na + 1) [] st with
      | some (.ref a :: As, rest) => if (rest.map fun v => v.category).sum ≤ 8 ∧ ((Value.ref a :: As).map fun v => v.category).sum ≤ (mt.getD cm m_LAW_law).2.2.2.1 then C cm (.ref a :: As) rest (pc + 3) else F
      | _ => F)
    | some (3, _, _, _, _) => pR F st (fun _ r => if d = 0 then F else if (r.map fun v => v.category).sum ≤ 8 then K (pc + 3) lv r M else F)
    | _ => F)
  | _ => F
/-- ends -/
def stT (i : Instr) : α := match i with
  | .ireturn => (match st with
    | [.int x] => (match rt with
      | some .int => T (some (.int x))
      | some .boolean => if x = 0 ∨ x = 1 then T (some (.int x)) else F
      | some .byte => if narrow .byte (.int x) = .int x then T (some (.int x)) else F
      | _ => F)
    | _ => F)
  | .lreturn => (match st with
    | [.long x] => (match rt with
      | some .long => T (some (.long x))
      | _ => F)
    | _ => F)
  | .areturn => (match st with
    | [.ref x] => (match rt with
      | some (.object _) => T (some (.ref x))
      | _ => F)
    | _ => F)
  | .return_ => (match st with
    | [] => (match rt with
      | none => T none
      | _ => F)
    | _ => F)
  | _ => F
def grp (i : Instr) : Nat := match i with
  | .iconst _ | .bipush _ | .sipush _ | .lconst _ | .iload_n _ | .iload _ | .lload_n _ | .lload _ | .aload_n _ | .aload _ | .istore_n _ | .istore _ | .lstore_n _ | .lstore _ | .astore_n _ | .astore _ | .iinc _ _ | .dup | .dup2 | .pop | .ldc _ | .ldc_w _ | .ldc2_w _ => 0
  | .iadd | .isub | .imul | .iand | .ior | .ixor | .ishl | .ishr | .iushr | .idiv | .irem | .ineg | .ladd | .lmul | .ldiv | .lrem | .lcmp | .i2l | .l2i | .i2b | .i2c => 1
  | .goto _ | .if_icmp _ _ | .ifCond _ _ | .tableswitch _ _ _ _ | .lookupswitch _ _ => 2
  | .getfield _ | .putfield _ | .getstatic _ | .arraylength | .iaload | .caload | .baload | .aaload | .iastore | .castore | .bastore | .aastore | .new _ | .newarray _ | .anewarray _ | .multianewarray _ _ => 3
  | .invokevirtual _ | .invokestatic _ | .invokespecial _ => 4
  | _ => 5
def stC (i : Instr) : α := match grp i with
  | 0 => stA F K o mxl pc lv st M i
  | 1 => stB F K pc lv st M i
  | 2 => stJ F K pc lv st M i
  | 3 => stH F K o ini pc lv st M i
  | 4 => stV F K C d o pc lv st M i
  | _ => stT F T rt st i
end Step
def rst (m : MT) (pc : Nat) (lv : LV) : LV := match asc m.2.2.2.2.2.2.2 pc with
  | none => lv
  | some ks => lvK ks lv
/-- n steps at most, d calls deep at most -/
def run : Nat → Nat → Nat → Nat → LV → List Value → Mem → Option (Option Value × Mem)
  | 0, _, _, _, _, _, _ => none
  | n + 1, d, mi, pc, lv, st, M => match mt[mi]? with
    | none => none
    | some m => match asc m.2.2.2.2.2.2.1 pc with
      | none => none
      | some il => stC none (fun pc' lv' st' M' => run n d mi pc' (rst m pc' lv') st' M')
          (fun cm As rest pc' => match d with
            | 0 => none
            | d' + 1 => match run n d' cm 0 (lv_args 0 As) [] M with
              | none => none
              | some (r, M1) => run n (d' + 1) mi pc' (rst m pc' lv) (r.toList ++ rest) M1)
          (fun v => some (v, M)) d m.1 m.2.2.2.1 m.2.2.2.2.1 m.2.2.2.2.2.1 pc lv st M il.1
end
section
/-! ===== the pure memory and the machine's heap ===== -/
/-- base, the String, its bytes, the script, the heap at the law's start, the script's length and ints, classes and slots, array classes by kind -/
abbrev WP : Type := Nat × Nat × Nat × Nat × Heap × Nat × (Nat → Int32) × va_G × (Nat → ClassId)
def wB (w : WP) : Nat := w.1
def wSt (w : WP) : Nat := w.2.1
def wBy (w : WP) : Nat := w.2.2.1
def wSc (w : WP) : Nat := w.2.2.2.1
def wH (w : WP) : Heap := w.2.2.2.2.1
def wL (w : WP) : Nat := w.2.2.2.2.2.1
def wX (w : WP) : Nat → Int32 := w.2.2.2.2.2.2.1
def wD (w : WP) : va_G := w.2.2.2.2.2.2.2.1
def wA (w : WP) : Nat → ClassId := w.2.2.2.2.2.2.2.2
def rho (w : WP) (a : Nat) : Nat := if a < 1000000 then wB w + a else if a = 1000000 then wSc w else if a = 1000001 then wSt w else wBy w
def mv (w : WP) (v : Value) : Value := match v with
  | .ref a => .ref (rho w a)
  | .int x => .int x
  | .long x => .long x
  | .float x => .float x
  | .double x => .double x
  | .null => .null
  | .retAddr x => .retAddr x
def mvl (w : WP) (lv : LV) : LV := lv.map (fun q => (q.1, mv w q.2))
theorem mv_cat (w : WP) (v : Value) : (mv w v).category = v.category := by cases v <;> rfl
def rfO (w : WP) (r : Nat) : Option Nat := if r = 999999 then none else some (rho w r)
def fV (w : WP) (M : Mem) (i ci k : Nat) : Value := match fT ci k with
  | 0 => .int (mI M i k)
  | 1 => .long (mJ M i k)
  | _ => va_rf (rfO w (mR M i k))
def flds (w : WP) (M : Mem) (i ci : Nat) : List Value := (List.range (nf ci)).map (fV w M i ci)
def cellE (w : WP) (M : Mem) (i : Nat) : va_E :=
  if mC M i < 8 then .inr (mC M i, flds w M i (mC M i))
  else if mC M i = 10 ∨ mC M i = 11 ∨ mC M i = 12 then .inl (wA w (mC M i), mL M i, .inl (mI M i))
  else .inl (wA w (mC M i), mL M i, .inr (.inr (.inr (.inr (fun k => rfO w (mR M i k))))))
def byU : List Int32 := [117, 100, 108, 114, 105, 111]
def old (t : Nat) : Prop := t = 99 ∨ t = 13 ∨ t = 17 ∨ t = 20
def wf (w : WP) (M : Mem) : Prop := mN M ≤ 900000 ∧ (∀ a, ¬ old (mC M a) → a < mN M) ∧ (∀ a, a < mN M → ¬ old (mC M a)) ∧
  (∀ a, mC M a = 17 → a = 1000000 ∧ mL M a = wL w ∧ mI M a = wX w) ∧ (∀ a, mC M a = 13 → a = 1000002 ∧ mL M a = 6 ∧ ∀ k, mI M a k = byU.getD k 0) ∧ (∀ a, mC M a = 20 → a = 1000001 ∧ mR M a 0 = 1000002 ∧ mI M a 1 = 0)
def HR (w : WP) (M : Mem) (H : Heap) : Prop := H.size = wB w + mN M ∧ (∀ q : Nat, q < wB w → H[q]? = (wH w)[q]?) ∧ (∀ i, i < mN M → va_at (wD w) vwCl (wB w + i, cellE w M i) H) ∧ wf w M
def tysW (w : WP) : List (ClassId × FieldType) := [(wA w 10, .int), (wA w 11, .char), (wA w 12, .boolean), (wA w 14, .object "KnotNames$Row"), (wA w 15, .object "KnotNames$Camp"), (wA w 16, .array .int)]
def nGood (x : Cond) : Bool := match x with
  | .fieldLinkNest .. => true
  | .methodLinkNest .. => true
  | x => goodWord x
def va_AOA (ty : FieldType) (U : State) : Prop := (Cond.arrayOver (.array ty)).before #[] U = true
theorem va_AOA.use {ty : FieldType} {A : Array Value} {U : State} (h : va_AOA ty U) : (Cond.arrayOver (.array ty)).before A U = true := h
theorem va_AOA.moved {ty : FieldType} {u U : State} (hvm : u.vm.Alike U.vm) (h : va_AOA ty u) : va_AOA ty U := by
  obtain ⟨comp, c, k, h1, h2, h3, h4, h5⟩ := arrayOverA_spec h
  obtain ⟨k', hk', he⟩ := hvm.2.2 _ _ h3
  have hi : (U.vm.classes.findIdx? fun (x : Class) => match x.kind with | .array component _ => component == comp | _ => false) = some c := by
    rw [hvm.findIdx?_eq _ (fun _ => rfl)]
    exact h2
  have hkind : k'.kind = .array comp (.array ty) := by rw [he]; exact h4
  have f1 : U.vm.findClass (FieldType.array ty).toString = some comp := by rw [hvm.findClass]; exact h1
  have f2 : U.vm.findClass ("[" ++ (FieldType.array ty).toString) = some c := by rw [hvm.findClass]; exact h5
  unfold va_AOA Cond.before Cond.holds
  simp only [Cond.value]
  rw [f1, Option.bind_some]
  refine (congrArg (fun o : Option Nat => (o.bind (fun c => (U.vm.classes[c]?).map fun (k : Class) => match k.kind with | .array _ t2 => decide (t2 = FieldType.array ty) && decide (U.vm.findClass ("[" ++ (FieldType.array ty).toString) = some c) | _ => false) == some true)) hi).trans ?_
  simp [hk', hkind, f2]
def Aw (w : WP) : Nat → Prop := fun q => wB w ≤ q
/-- what a state's tables and the cells from before the law say -/
def St (w : WP) (U : State) : Prop := (∀ x ∈ lw_tbl, nGood x = true → ∀ a : Array Value, x.before a U = true) ∧ va_K (wD w) vwCl (tysW w) U ∧ va_X (wSc w) (wL w) (wX w) U (wH w) ∧ vk_R "KnotNames$Text" 19 "udlrio" (wSt w) U ∧
  vk_S 1 [6] [byU] (fun _ => wSt w) (fun _ => wBy w) (Aw w) U (wH w) ∧ va_Z "java/lang/String" "COMPACT_STRINGS" "Z" (.int 1) (Aw w) U (wH w) ∧ va_AO "KnotNames$Row" U ∧ va_AO "KnotNames$Camp" U ∧ va_AOA .int U
theorem rho_lo {w : WP} {a : Nat} (h : a < 1000000) : rho w a = wB w + a := by unfold rho; rw [if_pos h]
theorem wf_new {w : WP} {M : Mem} {a t : Nat} (h : wf w M) (ht : mC M a = t) (hn : ¬ old t) : a < mN M ∧ rho w a = wB w + a := by
  obtain ⟨h1, h2, -⟩ := h
  have h3 : a < mN M := h2 a (by rw [ht]; exact hn)
  exact ⟨h3, rho_lo (by omega)⟩
theorem va_p1 {D : va_G} {cl : List vw_C} {q : Nat × va_E} {H : Heap} (h : va_at D cl q H) : va_P D cl [q] H := by
  intro k x hx
  have h0 : k < 1 := (List.getElem?_eq_some_iff.mp hx).1
  rw [show k = 0 by omega] at hx
  cases hx
  exact h
theorem HR_obj {w : WP} {M : Mem} {H : Heap} {a ci : Nat} (h : HR w M H) (ht : mC M a = ci) (hc : ci < 8) : a < mN M ∧ rho w a = wB w + a ∧ va_at (wD w) vwCl (wB w + a, .inr (ci, flds w M a ci)) H := by
  obtain ⟨-, -, h3, h4⟩ := h
  obtain ⟨g1, g2⟩ := wf_new h4 ht (by unfold old; omega)
  have := h3 a g1
  unfold cellE at this
  rw [if_pos (by omega), ht] at this
  exact ⟨g1, g2, this⟩
theorem HR_ints {w : WP} {M : Mem} {H : Heap} {a t : Nat} (h : HR w M H) (ht : mC M a = t) (hc : t = 10 ∨ t = 11 ∨ t = 12) : a < mN M ∧ rho w a = wB w + a ∧ H[wB w + a]? = some (vp_cell (wA w t) (mL M a, .inl (mI M a))) := by
  obtain ⟨-, -, h3, h4⟩ := h
  obtain ⟨g1, g2⟩ := wf_new h4 ht (by unfold old; omega)
  have := h3 a g1
  unfold cellE at this
  rw [if_neg (by omega), if_pos (by rw [ht]; exact hc), ht] at this
  exact ⟨g1, g2, this⟩
theorem HR_refs {w : WP} {M : Mem} {H : Heap} {a t : Nat} (h : HR w M H) (ht : mC M a = t) (hc : t = 14 ∨ t = 15 ∨ t = 16) : a < mN M ∧ rho w a = wB w + a ∧ H[wB w + a]? = some (vp_cell (wA w t) (mL M a, .inr (.inr (.inr (.inr (fun k => rfO w (mR M a k))))))) := by
  obtain ⟨-, -, h3, h4⟩ := h
  obtain ⟨g1, g2⟩ := wf_new h4 ht (by unfold old; omega)
  have := h3 a g1
  unfold cellE at this
  rw [if_neg (by omega), if_neg (by omega), ht] at this
  exact ⟨g1, g2, this⟩
/-- a written memory: one cell changed -/
theorem HR_put {w : WP} {M M' : Mem} {H H' : Heap} {a : Nat} (h : HR w M H) (ha : a < mN M) (hN : mN M' = mN M) (hC : mC M' = mC M) (hL : mL M' = mL M) (hI : ∀ b, b ≠ a → mI M' b = mI M b) (hJ : ∀ b, b ≠ a → mJ M' b = mJ M b) (hR : ∀ b, b ≠ a → mR M' b = mR M b)
    (he : va_at (wD w) vwCl (wB w + a, cellE w M' a) H') (hz : H'.size = H.size) (ho : ∀ q, q ≠ wB w + a → H'[q]? = H[q]?) : HR w M' H' := by
  obtain ⟨h1, h2, h3, h4, h5, h6, h7, h8, h9⟩ := h
  have hal : ¬ old (mC M a) := h6 a ha
  refine ⟨by rw [hz, hN]; exact h1, fun q hq => by rw [ho q (by omega)]; exact h2 q hq, fun i hi => ?_, by rw [hN]; exact h4, by rw [hN, hC]; exact h5, by rw [hN, hC]; exact h6, ?_, ?_, ?_⟩
  · rw [hN] at hi
    by_cases e : i = a
    · rw [e]; exact he
    · have hc : cellE w M' i = cellE w M i := by
        unfold cellE flds
        have hfv : fV w M' i (mC M i) = fV w M i (mC M i) := by
          funext k
          unfold fV
          rw [hI i e, hJ i e, hR i e]
        rw [hC, hL, hI i e, hR i e, hfv]
      rw [hc]
      exact (h3 i hi).kept (ho _ (show wB w + i ≠ wB w + a by omega))
  · intro b hb
    rw [hC] at hb
    have hba : b ≠ a := fun e => hal (by rw [← e, hb]; unfold old; omega)
    rw [hL, hI b hba]
    exact h7 b hb
  · intro b hb
    rw [hC] at hb
    have hba : b ≠ a := fun e => hal (by rw [← e, hb]; unfold old; omega)
    rw [hL, hI b hba]
    exact h8 b hb
  · intro b hb
    rw [hC] at hb
    have hba : b ≠ a := fun e => hal (by rw [← e, hb]; unfold old; omega)
    rw [hR b hba, hI b hba]
    exact h9 b hb
theorem up2_ne {α : Type} (f : Nat → Nat → α) {a b : Nat} (k : Nat) (v : α) (h : b ≠ a) : up2 f a k v b = f b := by
  funext j
  unfold up2
  rw [if_neg (fun q => h q.1)]
theorem up2_row {α : Type} (f : Nat → Nat → α) (a k : Nat) (v : α) : up2 f a k v a = fun j => if j = k then v else f a j := by
  funext j
  unfold up2
  by_cases h : j = k
  · rw [if_pos ⟨rfl, h⟩, if_pos h]
  · rw [if_neg (fun q => h q.2), if_neg h]
theorem HR_setI {w : WP} {M : Mem} {H H' : Heap} {a k : Nat} {v : Int32} (h : HR w M H) (ha : a < mN M) (he : va_at (wD w) vwCl (wB w + a, cellE w (setI M a k v) a) H') (hz : H'.size = H.size) (ho : ∀ q, q ≠ wB w + a → H'[q]? = H[q]?) : HR w (setI M a k v) H' :=
  HR_put h ha rfl rfl rfl (fun _ hb => up2_ne _ _ _ hb) (fun _ _ => rfl) (fun _ _ => rfl) he hz ho
theorem HR_setJ {w : WP} {M : Mem} {H H' : Heap} {a k : Nat} {v : Int64} (h : HR w M H) (ha : a < mN M) (he : va_at (wD w) vwCl (wB w + a, cellE w (setJ M a k v) a) H') (hz : H'.size = H.size) (ho : ∀ q, q ≠ wB w + a → H'[q]? = H[q]?) : HR w (setJ M a k v) H' :=
  HR_put h ha rfl rfl rfl (fun _ _ => rfl) (fun _ hb => up2_ne _ _ _ hb) (fun _ _ => rfl) he hz ho
theorem HR_setR {w : WP} {M : Mem} {H H' : Heap} {a k : Nat} {v : Nat} (h : HR w M H) (ha : a < mN M) (he : va_at (wD w) vwCl (wB w + a, cellE w (setR M a k v) a) H') (hz : H'.size = H.size) (ho : ∀ q, q ≠ wB w + a → H'[q]? = H[q]?) : HR w (setR M a k v) H' :=
  HR_put h ha rfl rfl rfl (fun _ _ => rfl) (fun _ _ => rfl) (fun _ hb => up2_ne _ _ _ hb) he hz ho
/-- a made cell -/
theorem HR_fresh {w : WP} {M : Mem} {H H' : Heap} {t len sl : Nat} (h : HR w M H) (hlim : mN M < 800000) (hto : ¬ old t) (he : va_at (wD w) vwCl (wB w + mN M, cellE w (fresh M t len sl) (mN M)) H') (hz : H'.size = H.size + 1) (ho : ∀ q, q < H.size → H'[q]? = H[q]?) : HR w (fresh M t len sl) H' := by
  obtain ⟨h1, h2, h3, h4, h5, h6, h7, h8, h9⟩ := h
  have hC : ∀ b, b ≠ mN M → mC (fresh M t len sl) b = mC M b := fun b hb => by show va_up _ _ _ _ = _; unfold va_up; rw [if_neg hb]
  have hC1 : mC (fresh M t len sl) (mN M) = t := by show va_up _ _ _ _ = _; unfold va_up; rw [if_pos rfl]
  have hL : ∀ b, b ≠ mN M → mL (fresh M t len sl) b = mL M b := fun b hb => by show va_up _ _ _ _ = _; unfold va_up; rw [if_neg hb]
  have hI : ∀ b, b ≠ mN M → mI (fresh M t len sl) b = mI M b := fun b hb => by funext j; show (if _ then _ else _) = _; rw [if_neg hb]
  have hJ : ∀ b, b ≠ mN M → mJ (fresh M t len sl) b = mJ M b := fun b hb => by funext j; show (if _ then _ else _) = _; rw [if_neg hb]
  have hR : ∀ b, b ≠ mN M → mR (fresh M t len sl) b = mR M b := fun b hb => by funext j; show (if _ then _ else _) = _; rw [if_neg hb]
  have hN : mN (fresh M t len sl) = mN M + 1 := rfl
  have hne : ∀ b, old (mC M b) → b ≠ mN M ∨ ∃ q, q = mN M := fun b _ => Or.inr ⟨_, rfl⟩
  have key : ∀ b u, old u → mC (fresh M t len sl) b = u → b ≠ mN M := fun b u hu hb e => hto (by rw [e, hC1] at hb; rw [hb]; exact hu)
  refine ⟨by rw [hz, h1, hN]; omega, fun q hq => by rw [ho q (by omega)]; exact h2 q hq, fun i hi => ?_, by rw [hN]; omega, ?_, ?_, ?_, ?_, ?_⟩
  · rw [hN] at hi
    by_cases e : i = mN M
    · rw [e]; exact he
    · have hc : cellE w (fresh M t len sl) i = cellE w M i := by
        unfold cellE flds
        have hfv : fV w (fresh M t len sl) i (mC M i) = fV w M i (mC M i) := by
          funext k
          unfold fV
          rw [hI i e, hJ i e, hR i e]
        rw [hC i e, hL i e, hI i e, hR i e, hfv]
      rw [hc]
      exact (h3 i (by omega)).kept (ho _ (show wB w + i < H.size by omega))
  · intro b hb
    rw [hN]
    by_cases e : b = mN M
    · omega
    · rw [hC b e] at hb
      have := h5 b hb
      omega
  · intro b hb
    rw [hN] at hb
    by_cases e : b = mN M
    · rw [e, hC1]; exact hto
    · rw [hC b e]
      exact h6 b (by omega)
  · intro b hb
    have e := key b 17 (by unfold old; omega) hb
    rw [hC b e] at hb
    rw [hL b e, hI b e]
    exact h7 b hb
  · intro b hb
    have e := key b 13 (by unfold old; omega) hb
    rw [hC b e] at hb
    rw [hL b e, hI b e]
    exact h8 b hb
  · intro b hb
    have e := key b 20 (by unfold old; omega) hb
    rw [hC b e] at hb
    rw [hR b e, hI b e]
    exact h9 b hb
end
section
theorem St_warm {w : WP} {s U : State} (hW : s.WarmedH U.vm) (h : St w s) : St w U := by
  obtain ⟨h1, h2, h3, h4, h5, h6, h7, h8, h9⟩ := h
  refine ⟨fun x hx hg a => ?_, h2.moved hW.alike, h3.moved hW.alike, h4.warm hW, h5.moved hW.alike, h6.moved hW.alike, h7.moved hW.alike, h8.moved hW.alike, h9.moved hW.alike⟩
  have hx1 := h1 x hx hg #[]
  cases x <;> first
    | exact va_Nw.use rfl (va_Nw.warmF hW hx1)
    | exact va_Nw.use rfl (va_Nw.warmM hW hx1)
    | exact word_at (args := #[]) hW (good_of_word hg) hx1
theorem St_same {w : WP} {s U : State} (hv : s.vm = U.vm) (h : St w s) : St w U := by
  have hW : s.WarmedH U.vm := by rw [← hv]; exact State.WarmedH.refl s
  exact St_warm hW h
def lenI (i : Instr) : Option Nat := match i with
  | .bipush _ | .iload _ | .lload _ | .aload _ | .istore _ | .lstore _ | .astore _ | .ldc _ | .newarray _ => some 2
  | .sipush _ | .iinc _ _ | .ldc_w _ | .ldc2_w _ | .goto _ | .if_icmp _ _ | .ifCond _ _ | .getfield _ | .putfield _ | .getstatic _ | .new _ | .anewarray _ | .invokevirtual _ | .invokestatic _ | .invokespecial _ => some 3
  | .multianewarray _ _ => some 4
  | .tableswitch _ _ _ _ | .lookupswitch _ _ => none
  | _ => some 1
section G
variable {w : WP} {p : Program} {l : Launch} {e : Env} {R : Room} {s : State} {m : MethodId} {args : Array Value} {below : List Frame} {meth : Method} {c : Code} {Q : State → Prop} {nL n0 s0 nT sT : Nat} {cc : ByteArray} {o : Nat} {ini : Bool}
def Gd (w : WP) (p : Program) (l : Launch) (e : Env) (R : Room) (s : State) (m : MethodId) (args : Array Value) (below : List Frame) (meth : Method) (c : Code) (nL n0 s0 : Nat) (Q : State → Prop) (pc : Nat) (lv : LV) (st : List Value) (M : Mem) : Prop :=
  ∀ (H : Heap) (locs : List Loc) (ls : Array Slot), HR w M H → n0 ≤ mN M → s0 ≤ mS M → (∀ q ∈ locs, wB w ≤ q.base) → lv_has ls nL (mvl w lv) → W p l e R s m args below meth c H locs (mN M - n0) (mS M - s0) Q (F0 m pc ls (st.map (mv w)))
/-- what stays the same while a method runs -/
def Cx (w : WP) (p : Program) (R : Room) (s : State) (m : MethodId) (args : Array Value) (meth : Method) (c : Code) (cc : ByteArray) (o nL n0 s0 nT sT : Nat) (ini : Bool) : Prop :=
  p.tables.exec = Jvm.exec ∧ c.code = cc ∧ c.maxLocals = nL ∧ s.vm.findClass (nm o) = some m.cls ∧ St w s ∧ (∀ q : Nat, q < wB w → s.heap[q]? = (wH w)[q]?) ∧ (s.heap.size = wB w + n0 ∧ (wH w).size = wB w) ∧ nT - n0 ≤ R.cells ∧ sT - s0 ≤ R.slots ∧ (ini = true → meth.name = "<init>")
theorem lvG_has {ls : Array Slot} {lv : LV} {i : Nat} {v : Value} (h : lv_has ls nL (mvl w lv)) (hv : lvG lv i = some v) : ls[i]? = some (.val (mv w v)) := by
  have key : ∀ lv : LV, lvG lv i = some v → (i, v) ∈ lv := by
    intro lv
    induction lv with
    | nil => intro h; cases h
    | cons q r ih =>
      intro h
      unfold lvG at h
      by_cases hq : q.1 = i
      · rw [if_pos hq] at h
        cases h
        rw [← hq]
        exact List.mem_cons_self
      · rw [if_neg hq] at h
        exact List.mem_cons_of_mem _ (ih h)
  exact h.2.2 (i, mv w v) (List.mem_map.mpr ⟨(i, v), key lv hv, rfl⟩)
theorem lvI_mem {q : Nat × Value} {i : Nat} {v : Value} : ∀ lv : LV, q ∈ lvI lv i v → q = (i, v) ∨ q ∈ lv := by
  intro lv
  induction lv with
  | nil => intro h; exact Or.inl (List.mem_singleton.mp h)
  | cons x r ih =>
    intro h
    unfold lvI at h
    by_cases hx : i < x.1
    · rw [if_pos hx] at h
      rcases List.mem_cons.mp h with h | h
      · exact Or.inl h
      · exact Or.inr h
    · rw [if_neg hx] at h
      rcases List.mem_cons.mp h with h | h
      · exact Or.inr (by rw [h]; exact List.mem_cons_self)
      · rcases ih h with h | h
        · exact Or.inl h
        · exact Or.inr (List.mem_cons_of_mem _ h)
theorem lv_less {ls : Array Slot} {a b : LV} (h : lv_has ls nL a) (hs : ∀ q ∈ b, q ∈ a) : lv_has ls nL b := ⟨h.1, h.2.1, fun q hq => h.2.2 q (hs q hq)⟩
theorem lvS1 {ls : Array Slot} {lv : LV} {i : Nat} {v : Value} (hv : v.category = 1) (h : lv_has ls nL ((i, mv w v) :: (mvl w lv).filter (fun q => !(q.1 == i) && !(q.1 + 1 == i && q.2.category == 2)))) : lv_has ls nL (mvl w (lvS lv i v)) := by
  refine lv_less h fun q hq => ?_
  obtain ⟨x, hx, rfl⟩ := List.mem_map.mp hq
  rcases lvI_mem _ hx with rfl | hx
  · exact List.mem_cons_self
  · obtain ⟨hx1, hx2⟩ := List.mem_filter.mp hx
    refine List.mem_cons_of_mem _ (List.mem_filter.mpr ⟨List.mem_map.mpr ⟨x, hx1, rfl⟩, ?_⟩)
    simp only [mv_cat, hv] at hx2 ⊢
    simp at hx2 ⊢
    exact hx2
theorem lvS2 {ls : Array Slot} {lv : LV} {i : Nat} {v : Value} (hv : v.category = 2) (h : lv_has ls nL ((i, mv w v) :: (mvl w lv).filter (fun q => !(q.1 == i) && (!(q.1 == i + 1) && !(q.1 + 1 == i && q.2.category == 2))))) : lv_has ls nL (mvl w (lvS lv i v)) := by
  refine lv_less h fun q hq => ?_
  obtain ⟨x, hx, rfl⟩ := List.mem_map.mp hq
  rcases lvI_mem _ hx with rfl | hx
  · exact List.mem_cons_self
  · obtain ⟨hx1, hx2⟩ := List.mem_filter.mp hx
    refine List.mem_cons_of_mem _ (List.mem_filter.mpr ⟨List.mem_map.mpr ⟨x, hx1, rfl⟩, ?_⟩)
    simp only [mv_cat, hv] at hx2 ⊢
    simp at hx2 ⊢
    exact hx2
theorem lvG_idx : ∀ {lv : LV} {i : Nat} {v : Value}, lvG lv i = some v → ∃ k : Nat, (mvl w lv)[k]? = some (i, mv w v) := by
  intro lv
  induction lv with
  | nil => intro i v h; cases h
  | cons q r ih =>
    intro i v h
    unfold lvG at h
    by_cases hq : q.1 = i
    · rw [if_pos hq] at h
      cases h
      exact ⟨0, by rw [← hq]; rfl⟩
    · rw [if_neg hq] at h
      obtain ⟨k, hk⟩ := ih h
      exact ⟨k + 1, hk⟩
theorem gI_s {β : Type} {lv : LV} {i : Nat} {k : Int32 → Option β} {r : β} (h : gI none lv i k = some r) : ∃ x, lvG lv i = some (.int x) ∧ k x = some r := by
  unfold gI at h
  split at h
  · exact ⟨_, by assumption, h⟩
  · cases h
theorem gL_s {β : Type} {lv : LV} {i : Nat} {k : Int64 → Option β} {r : β} (h : gL none lv i k = some r) : ∃ x, lvG lv i = some (.long x) ∧ k x = some r := by
  unfold gL at h
  split at h
  · exact ⟨_, by assumption, h⟩
  · cases h
theorem gR_s {β : Type} {lv : LV} {i : Nat} {k : Nat → Option β} {r : β} (h : gR none lv i k = some r) : ∃ x, lvG lv i = some (.ref x) ∧ k x = some r := by
  unfold gR at h
  split at h
  · exact ⟨_, by assumption, h⟩
  · cases h
theorem pI_s {β : Type} {st : List Value} {k : Int32 → List Value → Option β} {z : β} (h : pI none st k = some z) : ∃ x r, st = .int x :: r ∧ k x r = some z := by
  unfold pI at h
  split at h
  · exact ⟨_, _, rfl, h⟩
  · cases h
theorem pII_s {β : Type} {st : List Value} {k : Int32 → Int32 → List Value → Option β} {z : β} (h : pII none st k = some z) : ∃ x y r, st = .int y :: .int x :: r ∧ k x y r = some z := by
  unfold pII at h
  split at h
  · exact ⟨_, _, _, rfl, h⟩
  · cases h
theorem pL_s {β : Type} {st : List Value} {k : Int64 → List Value → Option β} {z : β} (h : pL none st k = some z) : ∃ x r, st = .long x :: r ∧ k x r = some z := by
  unfold pL at h
  split at h
  · exact ⟨_, _, rfl, h⟩
  · cases h
theorem pLL_s {β : Type} {st : List Value} {k : Int64 → Int64 → List Value → Option β} {z : β} (h : pLL none st k = some z) : ∃ x y r, st = .long y :: .long x :: r ∧ k x y r = some z := by
  unfold pLL at h
  split at h
  · exact ⟨_, _, _, rfl, h⟩
  · cases h
theorem pR_s {β : Type} {st : List Value} {k : Nat → List Value → Option β} {z : β} (h : pR none st k = some z) : ∃ x r, st = .ref x :: r ∧ k x r = some z := by
  unfold pR at h
  split at h
  · exact ⟨_, _, rfl, h⟩
  · cases h
theorem pIR_s {β : Type} {st : List Value} {k : Nat → Int32 → List Value → Option β} {z : β} (h : pIR none st k = some z) : ∃ a x r, st = .int x :: .ref a :: r ∧ k a x r = some z := by
  unfold pIR at h
  split at h
  · exact ⟨_, _, _, rfl, h⟩
  · cases h
theorem pLR_s {β : Type} {st : List Value} {k : Nat → Int64 → List Value → Option β} {z : β} (h : pLR none st k = some z) : ∃ a x r, st = .long x :: .ref a :: r ∧ k a x r = some z := by
  unfold pLR at h
  split at h
  · exact ⟨_, _, _, rfl, h⟩
  · cases h
theorem pRR_s {β : Type} {st : List Value} {k : Nat → Nat → List Value → Option β} {z : β} (h : pRR none st k = some z) : ∃ a x r, st = .ref x :: .ref a :: r ∧ k a x r = some z := by
  unfold pRR at h
  split at h
  · exact ⟨_, _, _, rfl, h⟩
  · cases h
theorem pIIR_s {β : Type} {st : List Value} {k : Nat → Int32 → Int32 → List Value → Option β} {z : β} (h : pIIR none st k = some z) : ∃ a i x r, st = .int x :: .int i :: .ref a :: r ∧ k a i x r = some z := by
  unfold pIIR at h
  split at h
  · exact ⟨_, _, _, _, rfl, h⟩
  · cases h
theorem pRIR_s {β : Type} {st : List Value} {k : Nat → Int32 → Nat → List Value → Option β} {z : β} (h : pRIR none st k = some z) : ∃ a i x r, st = .ref x :: .int i :: .ref a :: r ∧ k a i x r = some z := by
  unfold pRIR at h
  split at h
  · exact ⟨_, _, _, _, rfl, h⟩
  · cases h
theorem if_s {β : Type} {P : Prop} [Decidable P] {a : Option β} {z : β} (h : (if P then a else none) = some z) : P ∧ a = some z := by
  by_cases hP : P
  · rw [if_pos hP] at h; exact ⟨hP, h⟩
  · rw [if_neg hP] at h; cases h
theorem if_n {β : Type} {P : Prop} [Decidable P] {a : Option β} {z : β} (h : (if P then none else a) = some z) : ¬ P ∧ a = some z := by
  by_cases hP : P
  · rw [if_pos hP] at h; cases h
  · rw [if_neg hP] at h; exact ⟨hP, h⟩
theorem jmp_s {β : Type} {pc : Nat} {off : Int} {k : Nat → Option β} {z : β} (h : jmp none pc off k = some z) : ∃ t : Nat, (pc : Int) + off = (t : Int) ∧ k t = some z := by
  unfold jmp at h
  obtain ⟨h1, h2⟩ := if_s h
  exact ⟨_, by omega, h2⟩
theorem asc2_mem {β : Type} : ∀ {t : List (Nat × Nat × β)} {x i : Nat} {b : β}, asc2 t x i = some b → (x, i, b) ∈ t := by
  intro t
  induction t with
  | nil => intro x i b h; cases h
  | cons q r ih =>
    intro x i b h
    obtain ⟨q1, q2, q3⟩ := q
    unfold asc2 at h
    by_cases hq : q1 = x ∧ q2 = i
    · rw [if_pos hq] at h
      cases h
      rw [← hq.1, ← hq.2]
      exact List.mem_cons_self
    · rw [if_neg hq] at h
      exact List.mem_cons_of_mem _ (ih h)
theorem asc_mem {β : Type} : ∀ {t : List (Nat × β)} {i : Nat} {b : β}, asc t i = some b → (i, b) ∈ t := by
  intro t
  induction t with
  | nil => intro i b h; cases h
  | cons q r ih =>
    intro i b h
    obtain ⟨q1, q2⟩ := q
    unfold asc at h
    by_cases hq : q1 = i
    · rw [if_pos hq] at h
      cases h
      rw [← hq]
      exact List.mem_cons_self
    · rw [if_neg hq] at h
      exact List.mem_cons_of_mem _ (ih h)
end G
set_option maxRecDepth 100000 in
theorem iR_ok : ∀ q ∈ iR, lw_tbl[q.2.2.2]? = some (.constant (nm q.1) q.2.1 q.2.2.1) := by decide +kernel
set_option maxRecDepth 100000 in
theorem lR_ok : ∀ q ∈ lR, lw_tbl[q.2.2.2]? = some (.constantLong (nm q.1) q.2.1 q.2.2.1) := by decide +kernel
end
section
section G
variable {w : WP} {p : Program} {l : Launch} {e : Env} {R : Room} {s : State} {m : MethodId} {args : Array Value} {below : List Frame} {meth : Method} {c : Code} {Q : State → Prop} {nL n0 s0 nT sT : Nat} {cc : ByteArray} {o : Nat} {ini : Bool}
set_option maxHeartbeats 4000000 in
theorem stA_ok {i : Instr} {pc : Nat} {lv : LV} {st : List Value} {M : Mem} {K : Nat → LV → List Value → Mem → Option (Option Value × Mem)} {res : Option Value × Mem} (cx : Cx w p R s m args meth c cc o nL n0 s0 nT sT ini) (dg : ∀ k, lenI i = some k → decode cc pc = .ok (i, k))
    (KK : ∀ pc' lv' st' M', K pc' lv' st' M' = some res → (mN M' ≤ nT ∧ mS M' ≤ sT) ∧ Gd w p l e R s m args below meth c nL n0 s0 Q pc' lv' st' M') (h : stA none K o nL pc lv st M i = some res) : Gd w p l e R s m args below meth c nL n0 s0 Q pc lv st M := by
  obtain ⟨hx, hb, hml, hown, hSt, hold, hsz, hRc, hRs, hin⟩ := cx
  unfold stA at h
  intro H locs ls hH h1 h2 hl hls
  split at h
  · exact lv_iconst hx hb (dg _ rfl) rfl ((KK _ _ _ _ h).2 H locs ls hH h1 h2 hl hls)
  · exact lv_bipush hx hb (dg _ rfl) rfl ((KK _ _ _ _ h).2 H locs ls hH h1 h2 hl hls)
  · exact lv_sipush hx hb (dg _ rfl) rfl ((KK _ _ _ _ h).2 H locs ls hH h1 h2 hl hls)
  · exact lv_lconst hx hb (dg _ rfl) rfl ((KK _ _ _ _ h).2 H locs ls hH h1 h2 hl hls)
  · obtain ⟨x, hv, h⟩ := gI_s h
    exact lv_iload_n hx hb (dg _ rfl) rfl (lvG_has hls hv) ((KK _ _ _ _ h).2 H locs ls hH h1 h2 hl hls)
  · obtain ⟨x, hv, h⟩ := gI_s h
    exact lv_iload hx hb (dg _ rfl) (lvG_has hls hv) ((KK _ _ _ _ h).2 H locs ls hH h1 h2 hl hls)
  · obtain ⟨x, hv, h⟩ := gL_s h
    exact lv_lload_n hx hb (dg _ rfl) rfl (lvG_has hls hv) ((KK _ _ _ _ h).2 H locs ls hH h1 h2 hl hls)
  · obtain ⟨x, hv, h⟩ := gL_s h
    exact lv_lload hx hb (dg _ rfl) (lvG_has hls hv) ((KK _ _ _ _ h).2 H locs ls hH h1 h2 hl hls)
  · obtain ⟨x, hv, h⟩ := gR_s h
    exact lv_aload_n hx hb (dg _ rfl) rfl (lvG_has hls hv) ((KK _ _ _ _ h).2 H locs ls hH h1 h2 hl hls)
  · obtain ⟨x, hv, h⟩ := gR_s h
    exact lv_aload hx hb (dg _ rfl) (lvG_has hls hv) ((KK _ _ _ _ h).2 H locs ls hH h1 h2 hl hls)
  · obtain ⟨hn, h⟩ := if_s h
    obtain ⟨x, r, rfl, h⟩ := pI_s h
    exact lv_istore_n hx hb (dg _ rfl) rfl hls hn rfl (fun ls' hl' => (KK _ _ _ _ h).2 H locs ls' hH h1 h2 hl (lvS1 (v := .int x) rfl hl'))
  · obtain ⟨hn, h⟩ := if_s h
    obtain ⟨x, r, rfl, h⟩ := pI_s h
    exact lv_istore hx hb (dg _ rfl) hls hn rfl (fun ls' hl' => (KK _ _ _ _ h).2 H locs ls' hH h1 h2 hl (lvS1 (v := .int x) rfl hl'))
  · obtain ⟨hn, h⟩ := if_s h
    obtain ⟨x, r, rfl, h⟩ := pL_s h
    exact lv_lstore_n hx hb (dg _ rfl) rfl hls hn rfl (fun ls' hl' => (KK _ _ _ _ h).2 H locs ls' hH h1 h2 hl (lvS2 (v := .long x) rfl hl'))
  · obtain ⟨hn, h⟩ := if_s h
    obtain ⟨x, r, rfl, h⟩ := pL_s h
    exact lv_lstore hx hb (dg _ rfl) hls hn rfl (fun ls' hl' => (KK _ _ _ _ h).2 H locs ls' hH h1 h2 hl (lvS2 (v := .long x) rfl hl'))
  · obtain ⟨hn, h⟩ := if_s h
    obtain ⟨x, r, rfl, h⟩ := pR_s h
    exact lv_astore_n hx hb (dg _ rfl) rfl hls hn rfl (fun ls' hl' => (KK _ _ _ _ h).2 H locs ls' hH h1 h2 hl (lvS1 (v := .ref x) rfl hl'))
  · obtain ⟨hn, h⟩ := if_s h
    obtain ⟨x, r, rfl, h⟩ := pR_s h
    exact lv_astore hx hb (dg _ rfl) hls hn rfl (fun ls' hl' => (KK _ _ _ _ h).2 H locs ls' hH h1 h2 hl (lvS1 (v := .ref x) rfl hl'))
  · obtain ⟨hn, h⟩ := if_s h
    obtain ⟨x, hv, h⟩ := gI_s h
    obtain ⟨k, hk⟩ := lvG_idx (w := w) hv
    exact lv_iinc hx hb (dg _ rfl) hls hk rfl hn rfl (fun ls' hl' => (KK _ _ _ _ h).2 H locs ls' hH h1 h2 hl (lvS1 (v := .int _) rfl hl'))
  · split at h
    · exact lv_dup hx hb (dg _ rfl) rfl ((KK _ _ _ _ h).2 H locs ls hH h1 h2 hl hls)
    · exact lv_dup hx hb (dg _ rfl) rfl ((KK _ _ _ _ h).2 H locs ls hH h1 h2 hl hls)
    · cases h
  · split at h
    · exact lv_dup2_11 hx hb (dg _ rfl) rfl rfl ((KK _ _ _ _ h).2 H locs ls hH h1 h2 hl hls)
    · cases h
  · split at h
    · exact lv_pop hx hb (dg _ rfl) rfl ((KK _ _ _ _ h).2 H locs ls hH h1 h2 hl hls)
    · exact lv_pop hx hb (dg _ rfl) rfl ((KK _ _ _ _ h).2 H locs ls hH h1 h2 hl hls)
    · cases h
  · split at h
    next n v hv =>
      exact lv_ldc hx hb hown (hSt.1 _ (List.mem_of_getElem? (iR_ok _ (asc2_mem hv))) rfl _) (dg _ rfl) ((KK _ _ _ _ h).2 H locs ls hH h1 h2 hl hls)
    next =>
      obtain ⟨⟨ho, hn⟩, h⟩ := if_s h
      subst ho
      subst hn
      have hZ := hSt.2.2.2.1
      exact va_ldcS (own := "KnotNames$Text") (q := wSt w) hx hb hown hZ (dg _ rfl) ((KK _ _ _ _ h).2 H locs ls hH h1 h2 hl hls)
  · split at h
    next n v hv =>
      exact lv_ldcw hx hb hown (hSt.1 _ (List.mem_of_getElem? (iR_ok _ (asc2_mem hv))) rfl _) (dg _ rfl) ((KK _ _ _ _ h).2 H locs ls hH h1 h2 hl hls)
    next => cases h
  · split at h
    next n v hv =>
      exact lv_ldc2 hx hb hown (hSt.1 _ (List.mem_of_getElem? (lR_ok _ (asc2_mem hv))) rfl _) (dg _ rfl) ((KK _ _ _ _ h).2 H locs ls hH h1 h2 hl hls)
    next => cases h
  · cases h
end G
end
section
section G
variable {w : WP} {p : Program} {l : Launch} {e : Env} {R : Room} {s : State} {m : MethodId} {args : Array Value} {below : List Frame} {meth : Method} {c : Code} {Q : State → Prop} {nL n0 s0 nT sT : Nat} {cc : ByteArray} {o : Nat} {ini : Bool}
set_option maxHeartbeats 4000000 in
theorem stB_ok {i : Instr} {pc : Nat} {lv : LV} {st : List Value} {M : Mem} {K : Nat → LV → List Value → Mem → Option (Option Value × Mem)} {res : Option Value × Mem} (cx : Cx w p R s m args meth c cc o nL n0 s0 nT sT ini) (dg : ∀ k, lenI i = some k → decode cc pc = .ok (i, k))
    (KK : ∀ pc' lv' st' M', K pc' lv' st' M' = some res → (mN M' ≤ nT ∧ mS M' ≤ sT) ∧ Gd w p l e R s m args below meth c nL n0 s0 Q pc' lv' st' M') (h : stB none K pc lv st M i = some res) : Gd w p l e R s m args below meth c nL n0 s0 Q pc lv st M := by
  obtain ⟨hx, hb, hml, hown, hSt, hold, hsz, hRc, hRs, hin⟩ := cx
  unfold stB at h
  intro H locs ls hH h1 h2 hl hls
  split at h
  · obtain ⟨x, y, r, rfl, h⟩ := pII_s h
    exact lv_iadd hx hb (dg _ rfl) ((KK _ _ _ _ h).2 H locs ls hH h1 h2 hl hls)
  · obtain ⟨x, y, r, rfl, h⟩ := pII_s h
    exact lv_isub hx hb (dg _ rfl) ((KK _ _ _ _ h).2 H locs ls hH h1 h2 hl hls)
  · obtain ⟨x, y, r, rfl, h⟩ := pII_s h
    exact lv_imul hx hb (dg _ rfl) ((KK _ _ _ _ h).2 H locs ls hH h1 h2 hl hls)
  · obtain ⟨x, y, r, rfl, h⟩ := pII_s h
    exact lv_iand hx hb (dg _ rfl) ((KK _ _ _ _ h).2 H locs ls hH h1 h2 hl hls)
  · obtain ⟨x, y, r, rfl, h⟩ := pII_s h
    exact lv_ior hx hb (dg _ rfl) ((KK _ _ _ _ h).2 H locs ls hH h1 h2 hl hls)
  · obtain ⟨x, y, r, rfl, h⟩ := pII_s h
    exact lv_ixor hx hb (dg _ rfl) ((KK _ _ _ _ h).2 H locs ls hH h1 h2 hl hls)
  · obtain ⟨x, y, r, rfl, h⟩ := pII_s h
    exact lv_ishl hx hb (dg _ rfl) ((KK _ _ _ _ h).2 H locs ls hH h1 h2 hl hls)
  · obtain ⟨x, y, r, rfl, h⟩ := pII_s h
    exact lv_ishr hx hb (dg _ rfl) ((KK _ _ _ _ h).2 H locs ls hH h1 h2 hl hls)
  · obtain ⟨x, y, r, rfl, h⟩ := pII_s h
    exact lv_iushr hx hb (dg _ rfl) rfl ((KK _ _ _ _ h).2 H locs ls hH h1 h2 hl hls)
  · obtain ⟨x, y, r, rfl, h⟩ := pII_s h
    obtain ⟨hne, h⟩ := if_n h
    exact lv_idiv hx hb (dg _ rfl) hne ((KK _ _ _ _ h).2 H locs ls hH h1 h2 hl hls)
  · obtain ⟨x, y, r, rfl, h⟩ := pII_s h
    obtain ⟨hne, h⟩ := if_n h
    exact lv_irem hx hb (dg _ rfl) hne ((KK _ _ _ _ h).2 H locs ls hH h1 h2 hl hls)
  · obtain ⟨x, r, rfl, h⟩ := pI_s h
    exact lv_ineg hx hb (dg _ rfl) ((KK _ _ _ _ h).2 H locs ls hH h1 h2 hl hls)
  · obtain ⟨x, y, r, rfl, h⟩ := pLL_s h
    exact lv_ladd hx hb (dg _ rfl) ((KK _ _ _ _ h).2 H locs ls hH h1 h2 hl hls)
  · obtain ⟨x, y, r, rfl, h⟩ := pLL_s h
    exact lv_lmul hx hb (dg _ rfl) ((KK _ _ _ _ h).2 H locs ls hH h1 h2 hl hls)
  · obtain ⟨x, y, r, rfl, h⟩ := pLL_s h
    obtain ⟨hne, h⟩ := if_n h
    exact lv_ldiv hx hb (dg _ rfl) hne ((KK _ _ _ _ h).2 H locs ls hH h1 h2 hl hls)
  · obtain ⟨x, y, r, rfl, h⟩ := pLL_s h
    obtain ⟨hne, h⟩ := if_n h
    exact lv_lrem hx hb (dg _ rfl) hne ((KK _ _ _ _ h).2 H locs ls hH h1 h2 hl hls)
  · obtain ⟨x, y, r, rfl, h⟩ := pLL_s h
    exact W.lcmp hx hb (dg _ rfl) ((KK _ _ _ _ h).2 H locs ls hH h1 h2 hl hls)
  · obtain ⟨x, r, rfl, h⟩ := pI_s h
    exact lv_i2l hx hb (dg _ rfl) rfl ((KK _ _ _ _ h).2 H locs ls hH h1 h2 hl hls)
  · obtain ⟨x, r, rfl, h⟩ := pL_s h
    exact lv_l2i hx hb (dg _ rfl) rfl ((KK _ _ _ _ h).2 H locs ls hH h1 h2 hl hls)
  · obtain ⟨x, r, rfl, h⟩ := pI_s h
    exact lv_i2b hx hb (dg _ rfl) rfl ((KK _ _ _ _ h).2 H locs ls hH h1 h2 hl hls)
  · obtain ⟨x, r, rfl, h⟩ := pI_s h
    exact lv_i2c hx hb (dg _ rfl) rfl ((KK _ _ _ _ h).2 H locs ls hH h1 h2 hl hls)
  · cases h
theorem if_2 {β : Type} {P : Prop} [Decidable P] {a b : Option β} {z : β} (h : (if P then a else b) = some z) : (P ∧ a = some z) ∨ (¬ P ∧ b = some z) := by
  by_cases hP : P
  · rw [if_pos hP] at h; exact Or.inl ⟨hP, h⟩
  · rw [if_neg hP] at h; exact Or.inr ⟨hP, h⟩
theorem jj_ge {x y : Int32} : ¬ x < y ↔ y ≤ x := Int32.not_lt
theorem swt_s {β : Type} {k : Int → Option β} {dflt : Int} {z : β} : ∀ (offs : List Int) (lo x : Int), swt k dflt offs lo x = some z → ((x < lo ∨ lo + offs.length ≤ x) ∧ k dflt = some z) ∨ (lo ≤ x ∧ ∃ off, offs[(x - lo).toNat]? = some off ∧ k off = some z) := by
  intro offs
  induction offs with
  | nil =>
    intro lo x h
    unfold swt at h
    refine Or.inl ⟨?_, h⟩
    simp
    omega
  | cons a r ih =>
    intro lo x h
    unfold swt at h
    rcases if_2 h with ⟨hx, h⟩ | ⟨hx, h⟩
    · refine Or.inr ⟨by omega, a, ?_, h⟩
      rw [show (x - lo).toNat = 0 by omega]
      rfl
    · rcases ih (lo + 1) x h with ⟨h1, h2⟩ | ⟨h1, off, h2, h3⟩
      · refine Or.inl ⟨?_, h2⟩
        rw [List.length_cons]
        omega
      · refine Or.inr ⟨by omega, off, ?_, h3⟩
        rw [show (x - lo).toNat = (x - (lo + 1)).toNat + 1 by omega]
        exact h2
theorem swl_s {β : Type} {k : Int → Option β} {dflt : Int} {z : β} : ∀ (ps : List (Int × Int)) (x : Int), swl k dflt ps x = some z → k (Op.lookupswitch.offset ps dflt x) = some z := by
  intro ps
  induction ps with
  | nil => intro x h; exact h
  | cons a r ih =>
    intro x h
    obtain ⟨a1, a2⟩ := a
    unfold swl at h
    rcases if_2 h with ⟨hx, h⟩ | ⟨hx, h⟩
    · have : Op.lookupswitch.offset ((a1, a2) :: r) dflt x = a2 := by
        subst hx
        simp [Op.lookupswitch.offset]
      rw [this]; exact h
    · have : Op.lookupswitch.offset ((a1, a2) :: r) dflt x = Op.lookupswitch.offset r dflt x := by
        simp [Op.lookupswitch.offset, Ne.symm hx]
        try (intro hh; exact absurd hh hx)
      rw [this]; exact ih x h
set_option maxHeartbeats 4000000 in
theorem stJ_ok {i : Instr} {pc : Nat} {lv : LV} {st : List Value} {M : Mem} {K : Nat → LV → List Value → Mem → Option (Option Value × Mem)} {res : Option Value × Mem} (cx : Cx w p R s m args meth c cc o nL n0 s0 nT sT ini) (dg : ∃ k, decode cc pc = .ok (i, k) ∧ ∀ j, lenI i = some j → k = j)
    (KK : ∀ pc' lv' st' M', K pc' lv' st' M' = some res → (mN M' ≤ nT ∧ mS M' ≤ sT) ∧ Gd w p l e R s m args below meth c nL n0 s0 Q pc' lv' st' M') (h : stJ none K pc lv st M i = some res) : Gd w p l e R s m args below meth c nL n0 s0 Q pc lv st M := by
  obtain ⟨hx, hb, hml, hown, hSt, hold, hsz, hRc, hRs, hin⟩ := cx
  obtain ⟨len, dg, hlen⟩ := dg
  unfold stJ at h
  intro H locs ls hH h1 h2 hl hls
  split at h
  · have e := hlen _ rfl
    subst e
    obtain ⟨t, ht, h⟩ := jmp_s h
    exact lv_goto hx hb dg ht ((KK _ _ _ _ h).2 H locs ls hH h1 h2 hl hls)
  · have e := hlen _ rfl
    subst e
    obtain ⟨x, y, r, rfl, h3⟩ := pII_s h
    clear h
    obtain ⟨t, ht, h⟩ := jmp_s h3
    clear h3
    split at h
    · rcases if_2 h with ⟨hc, h⟩ | ⟨hc, h⟩
      · exact lv_icmp_eq hx hb dg ht (fun _ => (KK _ _ _ _ h).2 H locs ls hH h1 h2 hl hls) (fun q => absurd hc q)
      · exact lv_icmp_eq hx hb dg ht (fun q => absurd q hc) (fun _ => (KK _ _ _ _ h).2 H locs ls hH h1 h2 hl hls)
    · rcases if_2 h with ⟨hc, h⟩ | ⟨hc, h⟩
      · exact lv_icmp_ne hx hb dg ht (fun q => absurd hc q) (fun _ => (KK _ _ _ _ h).2 H locs ls hH h1 h2 hl hls)
      · exact lv_icmp_ne hx hb dg ht (fun _ => (KK _ _ _ _ h).2 H locs ls hH h1 h2 hl hls) (fun q => absurd q hc)
    · rcases if_2 h with ⟨hc, h⟩ | ⟨hc, h⟩
      · exact lv_icmp_lt hx hb dg ht (fun _ => (KK _ _ _ _ h).2 H locs ls hH h1 h2 hl hls) (fun q => absurd hc q)
      · exact lv_icmp_lt hx hb dg ht (fun q => absurd q hc) (fun _ => (KK _ _ _ _ h).2 H locs ls hH h1 h2 hl hls)
    · rcases if_2 h with ⟨hc, h⟩ | ⟨hc, h⟩
      · exact lv_icmp_ge hx hb dg ht (fun q => absurd hc (Int32.not_lt.mpr q)) (fun _ => (KK _ _ _ _ h).2 H locs ls hH h1 h2 hl hls)
      · exact lv_icmp_ge hx hb dg ht (fun _ => (KK _ _ _ _ h).2 H locs ls hH h1 h2 hl hls) (fun q => absurd (Int32.not_lt.mp hc) q)
    · rcases if_2 h with ⟨hc, h⟩ | ⟨hc, h⟩
      · exact lv_icmp_gt hx hb dg ht (fun _ => (KK _ _ _ _ h).2 H locs ls hH h1 h2 hl hls) (fun q => absurd hc q)
      · exact lv_icmp_gt hx hb dg ht (fun q => absurd q hc) (fun _ => (KK _ _ _ _ h).2 H locs ls hH h1 h2 hl hls)
    · rcases if_2 h with ⟨hc, h⟩ | ⟨hc, h⟩
      · exact lv_icmp_le hx hb dg ht (fun q => absurd hc (Int32.not_lt.mpr q)) (fun _ => (KK _ _ _ _ h).2 H locs ls hH h1 h2 hl hls)
      · exact lv_icmp_le hx hb dg ht (fun _ => (KK _ _ _ _ h).2 H locs ls hH h1 h2 hl hls) (fun q => absurd (Int32.not_lt.mp hc) q)
  · have e := hlen _ rfl
    subst e
    obtain ⟨x, r, rfl, h3⟩ := pI_s h
    clear h
    obtain ⟨t, ht, h⟩ := jmp_s h3
    clear h3
    split at h
    · rcases if_2 h with ⟨hc, h⟩ | ⟨hc, h⟩
      · exact lv_if_eq hx hb dg ht (fun _ => (KK _ _ _ _ h).2 H locs ls hH h1 h2 hl hls) (fun q => absurd hc q)
      · exact lv_if_eq hx hb dg ht (fun q => absurd q hc) (fun _ => (KK _ _ _ _ h).2 H locs ls hH h1 h2 hl hls)
    · rcases if_2 h with ⟨hc, h⟩ | ⟨hc, h⟩
      · exact lv_if_ne hx hb dg ht (fun q => absurd hc q) (fun _ => (KK _ _ _ _ h).2 H locs ls hH h1 h2 hl hls)
      · exact lv_if_ne hx hb dg ht (fun _ => (KK _ _ _ _ h).2 H locs ls hH h1 h2 hl hls) (fun q => absurd q hc)
    · rcases if_2 h with ⟨hc, h⟩ | ⟨hc, h⟩
      · exact lv_if_lt hx hb dg ht (fun _ => (KK _ _ _ _ h).2 H locs ls hH h1 h2 hl hls) (fun q => absurd hc q)
      · exact lv_if_lt hx hb dg ht (fun q => absurd q hc) (fun _ => (KK _ _ _ _ h).2 H locs ls hH h1 h2 hl hls)
    · rcases if_2 h with ⟨hc, h⟩ | ⟨hc, h⟩
      · exact lv_if_ge hx hb dg ht (fun q => absurd hc (Int32.not_lt.mpr q)) (fun _ => (KK _ _ _ _ h).2 H locs ls hH h1 h2 hl hls)
      · exact lv_if_ge hx hb dg ht (fun _ => (KK _ _ _ _ h).2 H locs ls hH h1 h2 hl hls) (fun q => absurd (Int32.not_lt.mp hc) q)
    · rcases if_2 h with ⟨hc, h⟩ | ⟨hc, h⟩
      · exact lv_if_gt hx hb dg ht (fun _ => (KK _ _ _ _ h).2 H locs ls hH h1 h2 hl hls) (fun q => absurd hc q)
      · exact lv_if_gt hx hb dg ht (fun q => absurd q hc) (fun _ => (KK _ _ _ _ h).2 H locs ls hH h1 h2 hl hls)
    · rcases if_2 h with ⟨hc, h⟩ | ⟨hc, h⟩
      · exact lv_if_le hx hb dg ht (fun q => absurd hc (Int32.not_lt.mpr q)) (fun _ => (KK _ _ _ _ h).2 H locs ls hH h1 h2 hl hls)
      · exact lv_if_le hx hb dg ht (fun _ => (KK _ _ _ _ h).2 H locs ls hH h1 h2 hl hls) (fun q => absurd (Int32.not_lt.mp hc) q)
  · obtain ⟨hhi, h⟩ := if_s h
    obtain ⟨x, r, rfl, h3⟩ := pI_s h
    clear h
    rcases swt_s _ _ _ h3 with ⟨hr, h⟩ | ⟨hlo, off, ho, h⟩
    · obtain ⟨t, ht, h⟩ := jmp_s h
      refine lv_tableOut hx hb dg ?_ ht ((KK _ _ _ _ h).2 H locs ls hH h1 h2 hl hls)
      rw [Array.length_toList] at hr
      omega
    · obtain ⟨t, ht, h⟩ := jmp_s h
      have hlt := (List.getElem?_eq_some_iff.mp ho).1
      rw [Array.length_toList] at hlt
      refine lv_tableIn hx hb dg (by omega) (by omega) ?_ ht ((KK _ _ _ _ h).2 H locs ls hH h1 h2 hl hls)
      rw [← Array.getElem?_toList]
      exact ho
  · obtain ⟨hp, h⟩ := if_s h
    obtain ⟨x, r, rfl, h3⟩ := pI_s h
    clear h
    have h := swl_s _ _ h3
    obtain ⟨t, ht, h⟩ := jmp_s h
    exact lv_lookup hx hb dg hp rfl ht ((KK _ _ _ _ h).2 H locs ls hH h1 h2 hl hls)
  · cases h
end G
end
section
def isRf (t : FieldType) : Bool := match t with
  | .object _ => true
  | .array _ => true
  | _ => false
def tyOK (g : Nat) (t : FieldType) : Prop := (g = 0 ∧ t = .int) ∨ (g = 1 ∧ t = .long) ∨ (g = 2 ∧ isRf t = true)
def ClsOK (ci : Nat) (C : String) (T : u_T) (N : Nat) (ty : Nat → FieldType) : Prop :=
  vwCl[ci]? = some (C, T, N) ∧ (∀ x ∈ u_ws C T N, x ∈ lw_tbl ∧ nGood x = true) ∧ (∀ k, k < N → parseFieldDescriptor (T k).2.2.1 = some (ty k)) ∧ (∀ a, a < N → ∀ b, b < N → a ≠ b → (T a).2.1 ≠ (T b).2.1) ∧ N = nf ci ∧ (∀ k, k < N → tyOK (fT ci k) (ty k)) ∧
  (∀ k, k < N → (T k).2.2.2 = fF ci k) ∧ (∀ k, k < N → (T k).1 = nm ci) ∧ C = nm ci ∧ Cond.instantiable C N ∈ lw_tbl ∧ Cond.initialized C ∈ lw_tbl
set_option maxRecDepth 100000 in
theorem clsI_0 : ∀ x ∈ u_ws RX0 TX0 3, x ∈ lw_tbl := by decide +kernel
set_option maxRecDepth 100000 in
theorem cls_0 : ClsOK 0 RX0 TX0 3 tyX0 := by
  refine ⟨rfl, fun x hx => ⟨clsI_0 x hx, ?_⟩, tyX0_ok, nmX0, by decide +kernel, ?_, by decide +kernel, by decide +kernel, by decide +kernel, by decide +kernel, by decide +kernel⟩
  · exact (List.all_eq_true (l := u_ws RX0 TX0 3) (p := nGood)).mp (by decide +kernel) x hx
  · unfold tyOK
    decide +kernel
set_option maxRecDepth 100000 in
theorem clsI_1 : ∀ x ∈ u_ws RX1 TX1 7, x ∈ lw_tbl := by decide +kernel
set_option maxRecDepth 100000 in
theorem cls_1 : ClsOK 1 RX1 TX1 7 tyX1 := by
  refine ⟨rfl, fun x hx => ⟨clsI_1 x hx, ?_⟩, tyX1_ok, nmX1, by decide +kernel, ?_, by decide +kernel, by decide +kernel, by decide +kernel, by decide +kernel, by decide +kernel⟩
  · exact (List.all_eq_true (l := u_ws RX1 TX1 7) (p := nGood)).mp (by decide +kernel) x hx
  · unfold tyOK
    decide +kernel
set_option maxRecDepth 100000 in
theorem clsI_2 : ∀ x ∈ u_ws RX2 TX2 3, x ∈ lw_tbl := by decide +kernel
set_option maxRecDepth 100000 in
theorem cls_2 : ClsOK 2 RX2 TX2 3 tyX2 := by
  refine ⟨rfl, fun x hx => ⟨clsI_2 x hx, ?_⟩, tyX2_ok, nmX2, by decide +kernel, ?_, by decide +kernel, by decide +kernel, by decide +kernel, by decide +kernel, by decide +kernel⟩
  · exact (List.all_eq_true (l := u_ws RX2 TX2 3) (p := nGood)).mp (by decide +kernel) x hx
  · unfold tyOK
    decide +kernel
set_option maxRecDepth 100000 in
theorem clsI_3 : ∀ x ∈ u_ws RX3 TX3 3, x ∈ lw_tbl := by decide +kernel
set_option maxRecDepth 100000 in
theorem cls_3 : ClsOK 3 RX3 TX3 3 tyX3 := by
  refine ⟨rfl, fun x hx => ⟨clsI_3 x hx, ?_⟩, tyX3_ok, nmX3, by decide +kernel, ?_, by decide +kernel, by decide +kernel, by decide +kernel, by decide +kernel, by decide +kernel⟩
  · exact (List.all_eq_true (l := u_ws RX3 TX3 3) (p := nGood)).mp (by decide +kernel) x hx
  · unfold tyOK
    decide +kernel
set_option maxRecDepth 100000 in
theorem clsI_4 : ∀ x ∈ u_ws RX4 TX4 2, x ∈ lw_tbl := by decide +kernel
set_option maxRecDepth 100000 in
theorem cls_4 : ClsOK 4 RX4 TX4 2 tyX4 := by
  refine ⟨rfl, fun x hx => ⟨clsI_4 x hx, ?_⟩, tyX4_ok, nmX4, by decide +kernel, ?_, by decide +kernel, by decide +kernel, by decide +kernel, by decide +kernel, by decide +kernel⟩
  · exact (List.all_eq_true (l := u_ws RX4 TX4 2) (p := nGood)).mp (by decide +kernel) x hx
  · unfold tyOK
    decide +kernel
set_option maxRecDepth 100000 in
theorem clsI_5 : ∀ x ∈ u_ws RX5 TX5 2, x ∈ lw_tbl := by decide +kernel
set_option maxRecDepth 100000 in
theorem cls_5 : ClsOK 5 RX5 TX5 2 tyX5 := by
  refine ⟨rfl, fun x hx => ⟨clsI_5 x hx, ?_⟩, tyX5_ok, nmX5, by decide +kernel, ?_, by decide +kernel, by decide +kernel, by decide +kernel, by decide +kernel, by decide +kernel⟩
  · exact (List.all_eq_true (l := u_ws RX5 TX5 2) (p := nGood)).mp (by decide +kernel) x hx
  · unfold tyOK
    decide +kernel
set_option maxRecDepth 100000 in
theorem clsI_6 : ∀ x ∈ u_ws RX6 TX6 12, x ∈ lw_tbl := by decide +kernel
set_option maxRecDepth 100000 in
theorem cls_6 : ClsOK 6 RX6 TX6 12 tyX6 := by
  refine ⟨rfl, fun x hx => ⟨clsI_6 x hx, ?_⟩, tyX6_ok, nmX6, by decide +kernel, ?_, by decide +kernel, by decide +kernel, by decide +kernel, by decide +kernel, by decide +kernel⟩
  · exact (List.all_eq_true (l := u_ws RX6 TX6 12) (p := nGood)).mp (by decide +kernel) x hx
  · unfold tyOK
    decide +kernel
set_option maxRecDepth 100000 in
theorem clsI_7 : ∀ x ∈ u_ws RX7 TX7 20, x ∈ lw_tbl := by decide +kernel
set_option maxRecDepth 100000 in
theorem cls_7 : ClsOK 7 RX7 TX7 20 tyX7 := by
  refine ⟨rfl, fun x hx => ⟨clsI_7 x hx, ?_⟩, tyX7_ok, nmX7, by decide +kernel, ?_, by decide +kernel, by decide +kernel, by decide +kernel, by decide +kernel, by decide +kernel⟩
  · exact (List.all_eq_true (l := u_ws RX7 TX7 20) (p := nGood)).mp (by decide +kernel) x hx
  · unfold tyOK
    decide +kernel
theorem cls_ok {ci : Nat} (h : ci < 8) : ∃ (C : String) (T : u_T) (N : Nat) (ty : Nat → FieldType), ClsOK ci C T N ty := by
  rcases (show ci = 0 ∨ ci = 1 ∨ ci = 2 ∨ ci = 3 ∨ ci = 4 ∨ ci = 5 ∨ ci = 6 ∨ ci = 7 by omega) with rfl | rfl | rfl | rfl | rfl | rfl | rfl | rfl
  · exact ⟨_, _, _, _, cls_0⟩
  · exact ⟨_, _, _, _, cls_1⟩
  · exact ⟨_, _, _, _, cls_2⟩
  · exact ⟨_, _, _, _, cls_3⟩
  · exact ⟨_, _, _, _, cls_4⟩
  · exact ⟨_, _, _, _, cls_5⟩
  · exact ⟨_, _, _, _, cls_6⟩
  · exact ⟨_, _, _, _, cls_7⟩
def Tn (ci k : Nat) : String × String × String × Bool := (vwCl.getD ci (RX0, TX0, 3)).2.1 k
def fOK (o : Nat) (q : Nat × Nat × Nat × Nat × Nat) : Prop := (q.2.1 = 20 ∧ q.2.2.2.1 = 0 ∧ ((q.2.2.1 = 0 ∧ lw_tbl[q.2.2.2.2]? = some (.fieldLink (nm o) q.1 "java/lang/String" "value" "[B")) ∨ (q.2.2.1 = 1 ∧ lw_tbl[q.2.2.2.2]? = some (.fieldLink (nm o) q.1 "java/lang/String" "coder" "B")))) ∨
  (q.2.1 < 8 ∧ q.2.2.1 < nf q.2.1 ∧ ((q.2.2.2.1 = 0 ∧ lw_tbl[q.2.2.2.2]? = some (.fieldLink (nm o) q.1 (Tn q.2.1 q.2.2.1).1 (Tn q.2.1 q.2.2.1).2.1 (Tn q.2.1 q.2.2.1).2.2.1)) ∨ (q.2.2.2.1 = 1 ∧ o ≠ q.2.1 ∧ lw_tbl[q.2.2.2.2]? = some (.fieldLinkNest (nm o) q.1 (Tn q.2.1 q.2.2.1).1 (Tn q.2.1 q.2.2.1).2.1 (Tn q.2.1 q.2.2.1).2.2.1 "KnotNames"))))
set_option maxRecDepth 100000 in
theorem fR_ok0 : ∀ o, o < 14 → ∀ q ∈ fRs.getD o [], fOK o q := by
  unfold fOK
  decide +kernel
theorem fR_ok {o : Nat} {q : Nat × Nat × Nat × Nat × Nat} (h : q ∈ fRs.getD o []) : fOK o q := by
  by_cases ho : o < 14
  · exact fR_ok0 o ho q h
  · have : fRs.getD o [] = [] := by
      rw [List.getD_eq_getElem?_getD, List.getElem?_eq_none (by show fRs.length ≤ o; exact Nat.le_trans (by decide) (Nat.not_lt.mp ho))]
      rfl
    rw [this] at h
    cases h
set_option maxRecDepth 100000 in
theorem kR_ok : ∀ q ∈ kR, (q.2.2.1 < 8 ∧ lw_tbl[q.2.2.2]? = some (.classLink (nm q.1) q.2.1 (nm q.2.2.1))) ∨ q.2.2.1 = 16 := by decide +kernel
theorem flds_len (w : WP) (M : Mem) (a ci : Nat) : (flds w M a ci).length = nf ci := by unfold flds; rw [List.length_map, List.length_range]
theorem flds_get (w : WP) (M : Mem) (a : Nat) {ci k : Nat} (h : k < nf ci) : (flds w M a ci)[k]? = some (fV w M a ci k) := by
  unfold flds
  rw [List.getElem?_map, List.getElem?_range h]
  rfl
theorem flds_set {w : WP} {M M' : Mem} {a ci k : Nat} {v : Value} (hk : k < nf ci) (h1 : fV w M' a ci k = v) (h2 : ∀ j, j ≠ k → fV w M' a ci j = fV w M a ci j) : (flds w M a ci).set k v = flds w M' a ci := by
  apply List.ext_getElem?
  intro j
  by_cases hj : j < nf ci
  · rw [flds_get w M' a hj]
    by_cases e : j = k
    · subst e
      rw [List.getElem?_set_self (by rw [flds_len]; exact hj), h1]
    · rw [List.getElem?_set_ne (Ne.symm e), flds_get w M a hj, h2 j e]
  · rw [List.getElem?_eq_none (by rw [List.length_set, flds_len]; omega), List.getElem?_eq_none (by rw [flds_len]; omega)]
theorem St_ws {w : WP} {s : State} {args : Array Value} {ws : List Cond} (h : St w s) (hi : ∀ x ∈ ws, x ∈ lw_tbl ∧ nGood x = true) : ∀ x ∈ ws, x.before args s = true := fun x hx => h.1 x (hi x hx).1 (hi x hx).2 args
section HW
variable {p : Program} {l : Launch} {e : Env} {R : Room} {s : State} {m : MethodId} {args : Array Value} {below : List Frame} {meth : Method} {c : Code} {H : Heap} {locs : List Loc} {cells slots : Nat} {Q : State → Prop}
variable {cc : ByteArray} {pc : Nat} {ls : Array Slot} {rest : List Value} {D : va_G} {cl : List vw_C} {a : Nat} {tys : List (ClassId × FieldType)}
/-- a field is put: the one cell changes -/
theorem h_put (hexec : p.tables.exec = Jvm.exec) (hb : c.code = cc) {own C : String} {T : u_T} {N ci index : Nat} {Ts : List Cond} (hts : ∀ w ∈ Ts, w.before args s = true) (hin : ∀ w ∈ u_ws C T N, w ∈ Ts) (ty0 : Nat → FieldType) (hty : ∀ k, k < N → parseFieldDescriptor (T k).2.2.1 = some (ty0 k)) (hnm : ∀ a, a < N → ∀ b, b < N → a ≠ b → (T a).2.1 ≠ (T b).2.1) (hown : s.vm.findClass own = some m.cls) (hK : va_K D cl tys s) {fs : List Value} (hP : va_at D cl (a, .inr (ci, fs)) H) (hc : cl[ci]? = some (C, T, N)) (k : Nat) (hk : k < N)
    (hlink : ((T k).2.2.2 = false ∧ (Cond.fieldLink own index (T k).1 (T k).2.1 (T k).2.2.1).before args s = true) ∨ ((T k).2.2.2 = false ∧ ∃ host, (Cond.fieldLinkNest own index (T k).1 (T k).2.1 (T k).2.2.1 host).before args s = true) ∨ ((T k).2.2.2 = true ∧ meth.name = "<init>" ∧ (T k).1 = own ∧ (Cond.fieldLink own index (T k).1 (T k).2.1 (T k).2.2.1).before args s = true))
    {v : Value} (hn : narrow (ty0 k) v = v) (hfit : fits (ty0 k) v = true) (hl : k < fs.length)
    (hdg : decode cc pc = .ok (.putfield index, 3)) (kk : ∀ (H1 : Heap) (x : Nat), va_at D cl (a, .inr (ci, fs.set k v)) H1 → H1.size = H.size → (∀ q, q ≠ a → H1[q]? = H[q]?) → W p l e R s m args below meth c H1 (locs ++ [⟨a, x⟩]) cells slots Q (F0 m (pc + 3) ls rest)) : W p l e R s m args below meth c H locs cells slots Q (F0 m pc ls (v :: .ref a :: rest)) := by
  have hap := va_apart (own := own) hts hin ty0 hty hnm hK hc
  obtain ⟨r, h1, cell, q1, q2, q3, q4⟩ := hP
  have hr : r = (C, T, N) := Option.some.inj (h1.symm.trans hc)
  subst hr
  obtain ⟨hS, hfc, kC, hkC, hkind⟩ := hK.1 ci _ hc
  obtain ⟨cf, kf, fi, f, hi, hsl⟩ := hS k hk
  have hlay := hts _ (hin _ (u_in_lay hk))
  unfold u_lay at hlay
  have hst := (u_facts hfc hkC (u_lays hts hin hk) hi).1
  have hd := hty k hk
  have fin : ∀ H' : Heap, H'[a]? = some (cell.setSlot f.slot v) → H'.size = H.size → (∀ q, q ≠ a → H'[q]? = H[q]?) → W p l e R s m args below meth c H' (locs ++ [⟨a, f.slot⟩]) cells slots Q (F0 m (pc + 3) ls rest) := by
    intro H' e1 e2 e3
    rw [hsl] at e1
    exact kk H' f.slot ⟨_, hc, t_OB.to (V := updV (vp_V fs) k v) ⟨_, e1, q2, q3, t_set q4 hap hk v⟩ (fun j _ => vp_updV_set hl v j)⟩ e2 e3
  rcases hlink with ⟨hf, hlink⟩ | ⟨hf, host, hlink⟩ | ⟨hf, hin2, hdecl, hlink⟩
  · rw [if_neg (by rw [hf]; decide)] at hlay
    have h6 := u_store hfc hkC hkind hlay hi hd hn hfit
    exact W.putK hexec hb (f := f) ⟨hown, hlink, ⟨_, _, _, hi⟩, hst⟩ (by rw [q2]; exact h6) q1 q3 (by rw [hsl]; exact k2_hasslot (q4 k hk)) rfl rfl hdg fin
  · rw [if_neg (by rw [hf]; decide)] at hlay
    have h6 := u_store hfc hkC hkind hlay hi hd hn hfit
    exact va_WputK hexec hb (f := f) hown hlink hi hst (by rw [q2]; exact h6) q1 q3 (by rw [hsl]; exact k2_hasslot (q4 k hk)) rfl rfl hdg fin
  · rw [if_pos hf] at hlay
    have hcf : m.cls = cf := by
      obtain ⟨_, _, c', _, _, _, -, -, hf', -, -, -, hown2, -⟩ := Cond.laysFinal_spec hlay
      have e1 : c' = cf := by have := hi.symm.trans hf'; simp at this; exact this.1.symm
      rw [hdecl] at hown2
      rw [← e1]; exact Option.some.inj (hown.symm.trans hown2)
    have h6 := u_fits hfc hkC hkind (Or.inr hlay) hi hd hn hfit
    exact W.putFinK hexec hb hown hlink hi hst hcf hin2 (by rw [q2]; exact h6) q1 q3 (by rw [hsl]; exact k2_hasslot (q4 k hk)) rfl rfl hdg fin
end HW
end
section
section G
variable {w : WP} {p : Program} {l : Launch} {e : Env} {R : Room} {s : State} {m : MethodId} {args : Array Value} {below : List Frame} {meth : Method} {c : Code} {Q : State → Prop} {nL n0 s0 nT sT : Nat} {cc : ByteArray} {o : Nat} {ini : Bool}
theorem up2_same {α : Type} (f : Nat → Nat → α) (a k : Nat) (v : α) : up2 f a k v a k = v := by unfold up2; rw [if_pos ⟨rfl, rfl⟩]
theorem up2_other {α : Type} (f : Nat → Nat → α) (a : Nat) {k j : Nat} (v : α) (h : j ≠ k) : up2 f a k v a j = f a j := by unfold up2; rw [if_neg (fun q => h q.2)]
theorem Tn_eq {ci : Nat} {C : String} {T : u_T} {N : Nat} {ty : Nat → FieldType} (h : ClsOK ci C T N ty) (k : Nat) : Tn ci k = T k := by
  unfold Tn
  rw [List.getD_eq_getElem?_getD, h.1]
  rfl
theorem HR_S {M : Mem} {H : Heap} {locs : List Loc} (hH : HR w M H) (h1 : n0 ≤ mN M) (hold : ∀ q : Nat, q < wB w → s.heap[q]? = (wH w)[q]?) (hsz : s.heap.size = wB w + n0 ∧ (wH w).size = wB w) (hl : ∀ q ∈ locs, wB w ≤ q.base) : va_S (Aw w) s.heap H locs := by
  refine ⟨by rw [hH.1, hsz.1]; omega, fun q _ hq => ?_, hl⟩
  have hq : q < wB w := Nat.not_le.mp hq
  rw [hH.2.1 q hq, hold q hq]
theorem HR_S0 {M : Mem} {H : Heap} {locs : List Loc} (hH : HR w M H) (hsz : (wH w).size = wB w) (hl : ∀ q ∈ locs, wB w ≤ q.base) : va_S (Aw w) (wH w) H locs := by
  refine ⟨by rw [hH.1, hsz]; omega, fun q _ hq => ?_, hl⟩
  exact hH.2.1 q (Nat.not_le.mp hq)
theorem loc1 {locs : List Loc} {b : Addr} {x : Nat} (hl : ∀ q ∈ locs, wB w ≤ q.base) (hb : wB w ≤ b) : ∀ q ∈ locs ++ [⟨b, x⟩], wB w ≤ q.base := by
  intro q hq
  rcases List.mem_append.mp hq with h | h
  · exact hl q h
  · rw [List.mem_singleton.mp h]; exact hb
theorem cellO {M : Mem} {i ci : Nat} (h : mC M i = ci) (hc : ci < 8) : cellE w M i = .inr (ci, flds w M i ci) := by
  unfold cellE
  rw [if_pos (by omega), h]
theorem cellIs {M : Mem} {i t : Nat} (h : mC M i = t) (hc : t = 10 ∨ t = 11 ∨ t = 12) : cellE w M i = .inl (wA w t, mL M i, .inl (mI M i)) := by
  unfold cellE
  rw [if_neg (by omega), if_pos (by rw [h]; exact hc), h]
theorem cellRs {M : Mem} {i t : Nat} (h : mC M i = t) (hc : t = 14 ∨ t = 15 ∨ t = 16) : cellE w M i = .inl (wA w t, mL M i, .inr (.inr (.inr (.inr (fun k => rfO w (mR M i k)))))) := by
  unfold cellE
  rw [if_neg (by omega), if_neg (by omega), h]
set_option maxHeartbeats 4000000 in
theorem st_getfield {n : Nat} {pc : Nat} {lv : LV} {st : List Value} {M : Mem} {K : Nat → LV → List Value → Mem → Option (Option Value × Mem)} {res : Option Value × Mem} (cx : Cx w p R s m args meth c cc o nL n0 s0 nT sT ini) (dg : decode cc pc = .ok (.getfield n, 3))
    (KK : ∀ pc' lv' st' M', K pc' lv' st' M' = some res → (mN M' ≤ nT ∧ mS M' ≤ sT) ∧ Gd w p l e R s m args below meth c nL n0 s0 Q pc' lv' st' M') (h : stH none K o ini pc lv st M (.getfield n) = some res) : Gd w p l e R s m args below meth c nL n0 s0 Q pc lv st M := by
  obtain ⟨hx, hb, hml, hown, hSt, hold, hsz, hRc, hRs, hin⟩ := cx
  unfold stH at h
  intro H locs ls hH h1 h2 hl hls
  dsimp only at h
  split at h
  next ci k nest wi hres =>
    obtain ⟨a, r, rfl, h3⟩ := pR_s h
    clear h
    obtain ⟨ht, h⟩ := if_s h3
    clear h3
    have hf := fR_ok (asc_mem hres)
    rcases hf with ⟨hc20, hnest, hk⟩ | ⟨hc8, hk, hlk⟩
    · dsimp only at hc20 hnest hk
      subst hc20
      obtain ⟨e1, e2, e3⟩ := hH.2.2.2.2.2.2.2.2 a ht
      subst e1
      have hA := HR_S (s := s) hH h1 hold hsz hl
      have hkp : ∀ q : Nat, q < (wH w).size → ¬ Aw w q → s.heap[q]? = (wH w)[q]? := fun q hq _ => hold q (by omega)
      have hstr := hSt.2.2.2.2.1.1 0 (by omega)
      rcases hk with ⟨rfl, hw⟩ | ⟨rfl, hw⟩
      · have h : K (pc + 3) lv (.ref (mR M 1000001 0) :: r) M = some res := (if_n h).2
        rw [e2] at h
        exact vk_getf (v := .ref (wBy w)) hx hb (hstr.2.2.1.kept hkp) hA hown (hSt.1 _ (List.mem_of_getElem? hw) rfl args) (fun _ q => q) dg ((KK _ _ _ _ h).2 H locs ls hH h1 h2 hl hls)
      · have h : K (pc + 3) lv (.int (mI M 1000001 1) :: r) M = some res := h
        rw [e3] at h
        exact vk_getf (v := .int 0) hx hb (hstr.2.1.kept hkp) hA hown (hSt.1 _ (List.mem_of_getElem? hw) rfl args) (fun _ q => q) dg ((KK _ _ _ _ h).2 H locs ls hH h1 h2 hl hls)
    · dsimp only at hc8 hk hlk
      obtain ⟨C, T, N, ty, hcls⟩ := cls_ok hc8
      obtain ⟨hcl, hws, hty, hnm, hN, htk, hfin, hdecl, hC, -⟩ := id hcls
      rw [← hN] at hk
      rw [Tn_eq hcls] at hlk
      obtain ⟨ha, hr, hat⟩ := HR_obj hH ht hc8
      have hK := hSt.2.1
      have go : ∀ v : Value, fV w M a ci k = v → W p l e R s m args below meth c H locs (mN M - n0) (mS M - s0) Q (F0 m (pc + 3) ls (v :: r.map (mv w))) → W p l e R s m args below meth c H locs (mN M - n0) (mS M - s0) Q (F0 m pc ls (.ref (wB w + a) :: r.map (mv w))) := by
        intro v hv hW
        rcases hlk with ⟨-, hw⟩ | ⟨-, hne2, hw⟩
        · exact va_get (C := C) (T := T) (N := N) hx hb (St_ws hSt hws) (fun _ q => q) hown hK (va_p1 hat) 0 rfl hcl k hk (hSt.1 _ (List.mem_of_getElem? hw) rfl args) (fun _ q => q) (v := v) (by rw [flds_get w M a (by omega), hv]) dg hW
        · exact va_getN (C := C) (T := T) (N := N) hx hb (St_ws hSt hws) (fun _ q => q) hown hK (va_p1 hat) 0 rfl hcl k hk (hSt.1 _ (List.mem_of_getElem? hw) rfl args) (fun _ q => q) (v := v) (by rw [flds_get w M a (by omega), hv]) dg hW
      show W p l e R s m args below meth c H locs (mN M - n0) (mS M - s0) Q (F0 m pc ls (.ref (rho w a) :: r.map (mv w)))
      rw [hr]
      split at h
      next hft => exact go _ (by unfold fV; rw [hft]; rfl) ((KK _ _ _ _ h).2 H locs ls hH h1 h2 hl hls)
      next hft => exact go _ (by unfold fV; rw [hft]; rfl) ((KK _ _ _ _ h).2 H locs ls hH h1 h2 hl hls)
      next hft =>
        obtain ⟨hne, h⟩ := if_n h
        exact go (.ref (rho w (mR M a k))) (by unfold fV; rw [hft]; show va_rf (rfO w (mR M a k)) = _; unfold rfO; rw [if_neg hne]; rfl) ((KK _ _ _ _ h).2 H locs ls hH h1 h2 hl hls)
      next => cases h
  next => cases h
set_option maxHeartbeats 4000000 in
theorem st_putfield {n : Nat} {pc : Nat} {lv : LV} {st : List Value} {M : Mem} {K : Nat → LV → List Value → Mem → Option (Option Value × Mem)} {res : Option Value × Mem} (cx : Cx w p R s m args meth c cc o nL n0 s0 nT sT ini) (dg : decode cc pc = .ok (.putfield n, 3))
    (KK : ∀ pc' lv' st' M', K pc' lv' st' M' = some res → (mN M' ≤ nT ∧ mS M' ≤ sT) ∧ Gd w p l e R s m args below meth c nL n0 s0 Q pc' lv' st' M') (h : stH none K o ini pc lv st M (.putfield n) = some res) : Gd w p l e R s m args below meth c nL n0 s0 Q pc lv st M := by
  obtain ⟨hx, hb, hml, hown, hSt, hold, hsz, hRc, hRs, hin⟩ := cx
  unfold stH at h
  intro H locs ls hH h1 h2 hl hls
  dsimp only at h
  split at h
  next ci k nest wi hres =>
    obtain ⟨⟨hc8, hff⟩, h⟩ := if_s h
    have hf := fR_ok (asc_mem hres)
    rcases hf with ⟨hc20, -⟩ | ⟨-, hk, hlk⟩
    · dsimp only at hc20
      omega
    · dsimp only at hk hlk
      obtain ⟨C, T, N, ty, hcls⟩ := cls_ok hc8
      obtain ⟨hcl, hws, hty, hnm, hN, htk, hfin, hdecl, hC, -⟩ := id hcls
      rw [← hN] at hk
      rw [Tn_eq hcls] at hlk
      have hK := hSt.2.1
      have hlink : ((T k).2.2.2 = false ∧ (Cond.fieldLink (nm o) n (T k).1 (T k).2.1 (T k).2.2.1).before args s = true) ∨ ((T k).2.2.2 = false ∧ ∃ host, (Cond.fieldLinkNest (nm o) n (T k).1 (T k).2.1 (T k).2.2.1 host).before args s = true) ∨ ((T k).2.2.2 = true ∧ meth.name = "<init>" ∧ (T k).1 = nm o ∧ (Cond.fieldLink (nm o) n (T k).1 (T k).2.1 (T k).2.2.1).before args s = true) := by
        by_cases hfb : fF ci k = false
        · rcases hlk with ⟨-, hw⟩ | ⟨-, hne2, hw⟩
          · exact Or.inl ⟨by rw [hfin k hk]; exact hfb, hSt.1 _ (List.mem_of_getElem? hw) rfl args⟩
          · exact Or.inr (Or.inl ⟨by rw [hfin k hk]; exact hfb, _, hSt.1 _ (List.mem_of_getElem? hw) rfl args⟩)
        · rcases hff with hff | ⟨hi, ho⟩
          · exact absurd hff hfb
          · rcases hlk with ⟨-, hw⟩ | ⟨-, hne2, hw⟩
            · exact Or.inr (Or.inr ⟨by rw [hfin k hk]; exact Bool.not_eq_false _ |>.mp hfb, hin hi, by rw [hdecl k hk, ho], hSt.1 _ (List.mem_of_getElem? hw) rfl args⟩)
            · exact absurd ho hne2
      have go : ∀ (a : Nat) (v : Value) (M' : Mem) (r : List Value), mC M a = ci → narrow (ty k) v = v → fits (ty k) v = true → fV w M' a ci k = v → (∀ j, j ≠ k → fV w M' a ci j = fV w M a ci j) → mC M' = mC M → (∀ H', va_at (wD w) vwCl (wB w + a, cellE w M' a) H' → H'.size = H.size → (∀ q, q ≠ wB w + a → H'[q]? = H[q]?) → HR w M' H') → mN M' = mN M → mS M' = mS M → K (pc + 3) lv r M' = some res → W p l e R s m args below meth c H locs (mN M - n0) (mS M - s0) Q (F0 m pc ls (v :: .ref (rho w a) :: r.map (mv w))) := by
        intro a v M' r ht hn hfit hfv hfo hMC hHR hN' hS' h
        obtain ⟨ha, hr, hat⟩ := HR_obj hH ht hc8
        rw [hr]
        refine h_put (C := C) (T := T) (N := N) hx hb (St_ws hSt hws) (fun _ q => q) ty hty hnm hown hK hat hcl k hk hlink hn hfit (by rw [flds_len]; omega) dg (fun H1 x e1 e2 e3 => ?_)
        rw [flds_set (by omega) hfv hfo] at e1
        have := (KK _ _ _ _ h).2 H1 (locs ++ [⟨wB w + a, x⟩]) ls (hHR H1 (by rw [cellO (by rw [hMC]; exact ht) hc8]; exact e1) e2 e3) (by omega) (by omega) (loc1 hl (Nat.le_add_right _ _)) hls
        rw [hN', hS'] at this
        exact this
      split at h
      next hft =>
        obtain ⟨a, x, r, rfl, h3⟩ := pIR_s h
        clear h
        obtain ⟨ht, h⟩ := if_s h3
        have hty0 : ty k = .int := by
          rcases htk k hk with ⟨-, q⟩ | ⟨q, -⟩ | ⟨q, -⟩
          · exact q
          · omega
          · omega
        obtain ⟨ha, -⟩ := HR_obj hH ht hc8
        refine go a (.int x) (setI M a k x) r ht (by rw [hty0]; rfl) (by rw [hty0]; rfl) ?_ ?_ rfl (fun H' q1 q2 q3 => HR_setI hH ha q1 q2 q3) rfl rfl h
        · unfold fV
          rw [hft]
          show Value.int (up2 (mI M) a k x a k) = _
          rw [up2_same]
        · intro j hj
          unfold fV
          have : mI (setI M a k x) a j = mI M a j := by show up2 (mI M) a k x a j = _; rw [up2_other _ _ _ hj]
          rw [this]
          rfl
      next hft =>
        obtain ⟨a, x, r, rfl, h3⟩ := pLR_s h
        clear h
        obtain ⟨ht, h⟩ := if_s h3
        have hty0 : ty k = .long := by
          rcases htk k hk with ⟨q, -⟩ | ⟨-, q⟩ | ⟨q, -⟩
          · omega
          · exact q
          · omega
        obtain ⟨ha, -⟩ := HR_obj hH ht hc8
        refine go a (.long x) (setJ M a k x) r ht (by rw [hty0]; rfl) (by rw [hty0]; rfl) ?_ ?_ rfl (fun H' q1 q2 q3 => HR_setJ hH ha q1 q2 q3) rfl rfl h
        · unfold fV
          rw [hft]
          show Value.long (up2 (mJ M) a k x a k) = _
          rw [up2_same]
        · intro j hj
          unfold fV
          have : mJ (setJ M a k x) a j = mJ M a j := by show up2 (mJ M) a k x a j = _; rw [up2_other _ _ _ hj]
          rw [this]
          rfl
      next hft =>
        obtain ⟨a, x, r, rfl, h3⟩ := pRR_s h
        clear h
        obtain ⟨⟨ht, hx9⟩, h⟩ := if_s h3
        have hty0 : isRf (ty k) = true := by
          rcases htk k hk with ⟨q, -⟩ | ⟨q, -⟩ | ⟨-, q⟩
          · omega
          · omega
          · exact q
        obtain ⟨ha, -⟩ := HR_obj hH ht hc8
        have hnar : ∀ b : Nat, narrow (ty k) (.ref b) = .ref b ∧ fits (ty k) (.ref b) = true := by
          intro b
          cases hq : ty k <;> rw [hq] at hty0 <;> first | exact ⟨rfl, rfl⟩ | cases hty0
        refine go a (.ref (rho w x)) (setR M a k x) r ht (hnar _).1 (hnar _).2 ?_ ?_ rfl (fun H' q1 q2 q3 => HR_setR hH ha q1 q2 q3) rfl rfl h
        · unfold fV
          rw [hft]
          show va_rf (rfO w (up2 (mR M) a k x a k)) = _
          rw [up2_same]
          unfold rfO
          rw [if_neg (by omega)]
          rfl
        · intro j hj
          unfold fV
          have : mR (setR M a k x) a j = mR M a j := by show up2 (mR M) a k x a j = _; rw [up2_other _ _ _ hj]
          rw [this]
          rfl
      next => cases h
  next => cases h
end G
end
section
section G
variable {w : WP} {p : Program} {l : Launch} {e : Env} {R : Room} {s : State} {m : MethodId} {args : Array Value} {below : List Frame} {meth : Method} {c : Code} {Q : State → Prop} {nL n0 s0 nT sT : Nat} {cc : ByteArray} {o : Nat} {ini : Bool}
set_option maxRecDepth 100000 in
theorem gstW : lw_tbl[316]? = some (.fieldLink "java/lang/String" 38 "java/lang/String" "COMPACT_STRINGS" "Z") := by decide +kernel
theorem inb_lt {i : Int32} {n : Nat} (h : inb i n) : i.toNatClampNeg < n := Nat.not_le.mp fun q => h (Or.inr q)
theorem arrI {M : Mem} {H : Heap} {a t : Nat} {ty : FieldType} (hH : HR w M H) (hSt : St w s) (ht : mC M a = t) (hc : (t = 10 ∧ ty = .int) ∨ (t = 11 ∧ ty = .char) ∨ (t = 12 ∧ ty = .boolean)) : ∃ k : Nat, (tysW w)[k]? = some (wA w t, ty) := by
  rcases hc with ⟨rfl, rfl⟩ | ⟨rfl, rfl⟩ | ⟨rfl, rfl⟩
  · exact ⟨0, rfl⟩
  · exact ⟨1, rfl⟩
  · exact ⟨2, rfl⟩
set_option maxHeartbeats 4000000 in
/-- an int put into a row of ints, chars or booleans -/
theorem HR_aput {M : Mem} {H H' : Heap} {a t k : Nat} {v : Int32} (hH : HR w M H) (ht : mC M a = t) (hc : t = 10 ∨ t = 11 ∨ t = 12) (e1 : H'[wB w + a]? = some ((vp_cell (wA w t) (mL M a, .inl (mI M a))).setSlot k (.int v))) (e2 : H'.size = H.size) (e3 : ∀ q, q ≠ wB w + a → H'[q]? = H[q]?) : HR w (setI M a k v) H' := by
  obtain ⟨ha, -, -⟩ := HR_ints hH ht hc
  refine HR_setI hH ha ?_ e2 e3
  rw [cellIs (M := setI M a k v) ht hc]
  show H'[wB w + a]? = some (vp_cell _ _)
  rw [e1, vp_cell_i, vp_cell_i, arrV_store]
  congr 2
  funext q
  show updV _ _ _ _ = Value.int (up2 (mI M) a k v a q)
  by_cases hq : q = k
  · subst hq
    rw [up2_same]
    simp [updV]
  · rw [up2_other _ _ _ hq]
    simp [updV, hq]
set_option maxHeartbeats 4000000 in
theorem st_arr {i : Instr} {pc : Nat} {lv : LV} {st : List Value} {M : Mem} {K : Nat → LV → List Value → Mem → Option (Option Value × Mem)} {res : Option Value × Mem} (cx : Cx w p R s m args meth c cc o nL n0 s0 nT sT ini) (dg : ∀ k, lenI i = some k → decode cc pc = .ok (i, k))
    (hi : i = .arraylength ∨ i = .iaload ∨ i = .caload ∨ i = .baload ∨ i = .aaload ∨ (∃ n, i = .getstatic n))
    (KK : ∀ pc' lv' st' M', K pc' lv' st' M' = some res → (mN M' ≤ nT ∧ mS M' ≤ sT) ∧ Gd w p l e R s m args below meth c nL n0 s0 Q pc' lv' st' M') (h : stH none K o ini pc lv st M i = some res) : Gd w p l e R s m args below meth c nL n0 s0 Q pc lv st M := by
  obtain ⟨hx, hb, hml, hown, hSt, hold, hsz, hRc, hRs, hin⟩ := cx
  intro H locs ls hH h1 h2 hl hls
  have hA := HR_S (s := s) hH h1 hold hsz hl
  have hA0 := HR_S0 hH hsz.2 hl
  have hkp : ∀ q : Nat, q < (wH w).size → ¬ Aw w q → s.heap[q]? = (wH w)[q]? := fun q hq _ => hold q (by omega)
  have hstr := hSt.2.2.2.2.1.1 0 (by omega)
  have hbT := hstr.2.2.2.kept hkp
  have hscr : wSc w < (wH w).size := by
    obtain ⟨scr, q, -⟩ := hSt.2.2.1
    exact (Array.getElem?_eq_some_iff.mp q).1
  have hK := hSt.2.1
  rcases hi with rfl | rfl | rfl | rfl | rfl | ⟨n, rfl⟩
  · obtain ⟨a, r, rfl, h3⟩ := pR_s h
    clear h
    obtain ⟨ht, h⟩ := if_s h3
    have hW := (KK _ _ _ _ h).2 H locs ls hH h1 h2 hl hls
    show W p l e R s m args below meth c H locs (mN M - n0) (mS M - s0) Q (F0 m pc ls (.ref (rho w a) :: r.map (mv w)))
    have g1 : ∀ t : Nat, (t = 10 ∨ t = 11 ∨ t = 12) → mC M a = t → ∀ (j : Nat) (ty : FieldType), (tysW w)[j]? = some (wA w t, ty) → W p l e R s m args below meth c H locs (mN M - n0) (mS M - s0) Q (F0 m pc ls (.ref (rho w a) :: r.map (mv w))) := by
      intro t hc ht j ty hj
      obtain ⟨ha, hr, hat⟩ := HR_ints hH ht hc
      rw [hr]
      exact va_alen (D := wD w) (cl := vwCl) (ws := [(wB w + a, .inl (wA w t, mL M a, .inl (mI M a)))]) hx hb hK (va_p1 hat) 0 j rfl hj rfl (dg _ rfl) hW
    have g2 : ∀ t : Nat, (t = 14 ∨ t = 15 ∨ t = 16) → mC M a = t → ∀ (j : Nat) (ty : FieldType), (tysW w)[j]? = some (wA w t, ty) → W p l e R s m args below meth c H locs (mN M - n0) (mS M - s0) Q (F0 m pc ls (.ref (rho w a) :: r.map (mv w))) := by
      intro t hc ht j ty hj
      obtain ⟨ha, hr, hat⟩ := HR_refs hH ht hc
      rw [hr]
      exact va_alen (D := wD w) (cl := vwCl) (ws := [(wB w + a, .inl (wA w t, mL M a, .inr (.inr (.inr (.inr (fun k => rfO w (mR M a k)))))))]) hx hb hK (va_p1 hat) 0 j rfl hj rfl (dg _ rfl) hW
    rcases ht with ht | ht | ht | ht | ht | ht | ht | ht
    · exact g1 10 (by omega) ht 0 _ rfl
    · exact g1 11 (by omega) ht 1 _ rfl
    · exact g1 12 (by omega) ht 2 _ rfl
    · obtain ⟨e1, e2, e3⟩ := hH.2.2.2.2.2.2.2.1 a ht
      subst e1
      rw [e2] at hW
      exact va_tlen hx hb hbT hA rfl (dg _ rfl) hW
    · exact g2 14 (by omega) ht 3 _ rfl
    · exact g2 15 (by omega) ht 4 _ rfl
    · exact g2 16 (by omega) ht 5 _ rfl
    · obtain ⟨e1, e2, e3⟩ := hH.2.2.2.2.2.2.1 a ht
      subst e1
      rw [e2] at hW
      exact va_slen hx hb hSt.2.2.1 hscr (fun q => by have : wB w ≤ wSc w := q; omega) hA0 (dg _ rfl) hW
  · obtain ⟨a, x, r, rfl, h3⟩ := pIR_s h
    clear h
    obtain ⟨⟨ht, hb1⟩, h⟩ := if_s h3
    have hW := (KK _ _ _ _ h).2 H locs ls hH h1 h2 hl hls
    show W p l e R s m args below meth c H locs (mN M - n0) (mS M - s0) Q (F0 m pc ls (.int x :: .ref (rho w a) :: r.map (mv w)))
    rcases ht with ht | ht
    · obtain ⟨ha, hr, hat⟩ := HR_ints hH ht (by omega)
      rw [hr]
      exact va_iald (D := wD w) (cl := vwCl) (ws := [(wB w + a, .inl (wA w 10, mL M a, .inl (mI M a)))]) hx hb hK (va_p1 hat) 0 0 rfl rfl hb1 (dg _ rfl) hW
    · obtain ⟨e1, e2, e3⟩ := hH.2.2.2.2.2.2.1 a ht
      subst e1
      rw [e2] at hb1
      rw [e3] at hW
      exact va_sld hx hb hSt.2.2.1 hscr (fun q => by have : wB w ≤ wSc w := q; omega) hA0 hb1 (dg _ rfl) hW
  · obtain ⟨a, x, r, rfl, h3⟩ := pIR_s h
    clear h
    obtain ⟨⟨ht, hb1⟩, h⟩ := if_s h3
    have hW := (KK _ _ _ _ h).2 H locs ls hH h1 h2 hl hls
    show W p l e R s m args below meth c H locs (mN M - n0) (mS M - s0) Q (F0 m pc ls (.int x :: .ref (rho w a) :: r.map (mv w)))
    obtain ⟨ha, hr, hat⟩ := HR_ints hH ht (by omega)
    rw [hr]
    exact va_cald (D := wD w) (cl := vwCl) (ws := [(wB w + a, .inl (wA w 11, mL M a, .inl (mI M a)))]) hx hb hK (va_p1 hat) 0 1 rfl rfl hb1 (dg _ rfl) hW
  · obtain ⟨a, x, r, rfl, h3⟩ := pIR_s h
    clear h
    obtain ⟨⟨ht, hb1⟩, h⟩ := if_s h3
    have hW := (KK _ _ _ _ h).2 H locs ls hH h1 h2 hl hls
    show W p l e R s m args below meth c H locs (mN M - n0) (mS M - s0) Q (F0 m pc ls (.int x :: .ref (rho w a) :: r.map (mv w)))
    rcases ht with ht | ht
    · obtain ⟨ha, hr, hat⟩ := HR_ints hH ht (by omega)
      rw [hr]
      exact va_zald (D := wD w) (cl := vwCl) (ws := [(wB w + a, .inl (wA w 12, mL M a, .inl (mI M a)))]) hx hb hK (va_p1 hat) 0 2 rfl rfl hb1 (dg _ rfl) hW
    · obtain ⟨e1, e2, e3⟩ := hH.2.2.2.2.2.2.2.1 a ht
      subst e1
      rw [e2] at hb1
      rw [e3] at hW
      exact va_tb (v := .int (byU.getD x.toNatClampNeg 0)) hx hb hbT hA hb1 rfl (dg _ rfl) hW
  · obtain ⟨a, x, r, rfl, h3⟩ := pIR_s h
    clear h
    obtain ⟨⟨⟨ht, hb1⟩, hne⟩, h⟩ := if_s h3
    have hW := (KK _ _ _ _ h).2 H locs ls hH h1 h2 hl hls
    show W p l e R s m args below meth c H locs (mN M - n0) (mS M - s0) Q (F0 m pc ls (.int x :: .ref (rho w a) :: r.map (mv w)))
    have g2 : ∀ t : Nat, (t = 14 ∨ t = 15 ∨ t = 16) → mC M a = t → ∀ (j : Nat) (ty : FieldType), (tysW w)[j]? = some (wA w t, ty) → ty.isReference = true → W p l e R s m args below meth c H locs (mN M - n0) (mS M - s0) Q (F0 m pc ls (.int x :: .ref (rho w a) :: r.map (mv w))) := by
      intro t hc ht j ty hj hty
      obtain ⟨ha, hr, hat⟩ := HR_refs hH ht hc
      rw [hr]
      have hlt := inb_lt hb1
      refine W.aald (v := va_rf (rfO w (mR M a x.toNatClampNeg))) (ty := ty) hx hb hat ((hK.2 j _ hj).1 (mL M a) (fun k => va_rf (rfO w (mR M a k)))) hty (fun q => by cases q) (by show ¬ (x < 0 ∨ (arrV _ _ _).slots.size ≤ _); rw [arrV_size]; exact hb1) (by show (arrV _ _ _).slots[_]? = _; rw [arrV_read _ _ hlt]) rfl rfl (dg _ rfl) ?_
      have e : va_rf (rfO w (mR M a x.toNatClampNeg)) = .ref (rho w (mR M a x.toNatClampNeg)) := by unfold rfO; rw [if_neg hne]; rfl
      rw [e]
      exact hW
    rcases ht with ht | ht | ht
    · exact g2 14 (by omega) ht 3 _ rfl rfl
    · exact g2 15 (by omega) ht 4 _ rfl rfl
    · exact g2 16 (by omega) ht 5 _ rfl rfl
  · obtain ⟨⟨ho, hn⟩, h⟩ := if_s h
    subst ho
    subst hn
    exact va_gets hx hb (hSt.2.2.2.2.2.1.kept hkp) hA hown (hSt.1 _ (List.mem_of_getElem? gstW) rfl args) (fun _ q => q) (dg _ rfl) ((KK _ _ _ _ h).2 H locs ls hH h1 h2 hl hls)
set_option maxHeartbeats 4000000 in
theorem st_arw {i : Instr} {pc : Nat} {lv : LV} {st : List Value} {M : Mem} {K : Nat → LV → List Value → Mem → Option (Option Value × Mem)} {res : Option Value × Mem} (cx : Cx w p R s m args meth c cc o nL n0 s0 nT sT ini) (dg : ∀ k, lenI i = some k → decode cc pc = .ok (i, k))
    (hi : i = .iastore ∨ i = .castore ∨ i = .bastore ∨ i = .aastore)
    (KK : ∀ pc' lv' st' M', K pc' lv' st' M' = some res → (mN M' ≤ nT ∧ mS M' ≤ sT) ∧ Gd w p l e R s m args below meth c nL n0 s0 Q pc' lv' st' M') (h : stH none K o ini pc lv st M i = some res) : Gd w p l e R s m args below meth c nL n0 s0 Q pc lv st M := by
  obtain ⟨hx, hb, hml, hown, hSt, hold, hsz, hRc, hRs, hin⟩ := cx
  intro H locs ls hH h1 h2 hl hls
  have hK := hSt.2.1
  rcases hi with rfl | rfl | rfl | rfl
  · obtain ⟨a, x, v, r, rfl, h3⟩ := pIIR_s h
    clear h
    obtain ⟨⟨ht, hb1⟩, h⟩ := if_s h3
    show W p l e R s m args below meth c H locs (mN M - n0) (mS M - s0) Q (F0 m pc ls (.int v :: .int x :: .ref (rho w a) :: r.map (mv w)))
    obtain ⟨ha, hr, hat⟩ := HR_ints hH ht (by omega)
    rw [hr]
    refine W.iast hx hb hat ((hK.2 0 _ rfl).1 (mL M a) (fun j => .int (mI M a j))) (fun q => by cases q) (by show ¬ (x < 0 ∨ (arrV _ _ _).slots.size ≤ _); rw [arrV_size]; exact hb1) rfl rfl (dg _ rfl) fun H1 e z oq => ?_
    exact (KK _ _ _ _ h).2 H1 (locs ++ [⟨wB w + a, x.toNatClampNeg⟩]) ls (HR_aput hH ht (by omega) e z oq) h1 h2 (loc1 hl (Nat.le_add_right _ _)) hls
  · obtain ⟨a, x, v, r, rfl, h3⟩ := pIIR_s h
    clear h
    obtain ⟨⟨ht, hb1⟩, h⟩ := if_s h3
    show W p l e R s m args below meth c H locs (mN M - n0) (mS M - s0) Q (F0 m pc ls (.int v :: .int x :: .ref (rho w a) :: r.map (mv w)))
    obtain ⟨ha, hr, hat⟩ := HR_ints hH ht (by omega)
    rw [hr]
    refine W.cast hx hb hat ((hK.2 1 _ rfl).1 (mL M a) (fun j => .int (mI M a j))) (fun q => by cases q) (by show ¬ (x < 0 ∨ (arrV _ _ _).slots.size ≤ _); rw [arrV_size]; exact hb1) rfl rfl (dg _ rfl) fun H1 e z oq => ?_
    exact (KK _ _ _ _ h).2 H1 (locs ++ [⟨wB w + a, x.toNatClampNeg⟩]) ls (HR_aput hH ht (by omega) e z oq) h1 h2 (loc1 hl (Nat.le_add_right _ _)) hls
  · obtain ⟨a, x, v, r, rfl, h3⟩ := pIIR_s h
    clear h
    obtain ⟨⟨ht, hb1⟩, h⟩ := if_s h3
    show W p l e R s m args below meth c H locs (mN M - n0) (mS M - s0) Q (F0 m pc ls (.int v :: .int x :: .ref (rho w a) :: r.map (mv w)))
    obtain ⟨ha, hr, hat⟩ := HR_ints hH ht (by omega)
    rw [hr]
    refine W.zast hx hb hat ((hK.2 2 _ rfl).1 (mL M a) (fun j => .int (mI M a j))) (fun q => by cases q) (by show ¬ (x < 0 ∨ (arrV _ _ _).slots.size ≤ _); rw [arrV_size]; exact hb1) rfl rfl (dg _ rfl) fun H1 e z oq => ?_
    exact (KK _ _ _ _ h).2 H1 (locs ++ [⟨wB w + a, x.toNatClampNeg⟩]) ls (HR_aput hH ht (by omega) e z oq) h1 h2 (loc1 hl (Nat.le_add_right _ _)) hls
  · obtain ⟨a, x, v, r, rfl, h3⟩ := pRIR_s h
    clear h
    obtain ⟨⟨ht, hb1⟩, h⟩ := if_s h3
    show W p l e R s m args below meth c H locs (mN M - n0) (mS M - s0) Q (F0 m pc ls (.ref (rho w v) :: .int x :: .ref (rho w a) :: r.map (mv w)))
    have hlt := inb_lt hb1
    have h0 : ¬ x < 0 := fun q => hb1 (Or.inl q)
    have g : ∀ (t ci j : Nat) (C : String) (T : u_T) (N : Nat), (t = 14 ∨ t = 15) → ci < 8 → mC M a = t → mC M v = ci → vwCl[ci]? = some (C, T, N) → (tysW w)[j]? = some (wA w t, .object C) → W p l e R s m args below meth c H locs (mN M - n0) (mS M - s0) Q (F0 m pc ls (.ref (rho w v) :: .int x :: .ref (rho w a) :: r.map (mv w))) := by
      intro t ci j C T N hc hc8 hta htv hcl hj
      obtain ⟨ha, hr, hat⟩ := HR_refs hH hta (by omega)
      obtain ⟨hv, hrv, hatv⟩ := HR_obj hH htv hc8
      rw [hr, hrv]
      obtain ⟨r', hr', cellV, g1, g2, g3, -⟩ := hatv
      have hcls := (hK.1 ci _ hcl).2
      obtain ⟨kA, comp, k1, k2, k3, -⟩ := (hK.2 j _ hj).2
      have hcomp : comp = (wD w).1 ci := Option.some.inj (k3.symm.trans hcls.1)
      subst hcomp
      obtain ⟨kC, hkC, -⟩ := hcls.2
      refine W.aast hx hb hat (fun q h => by cases h) (fun h => by cases h) k1 k2 rfl hkC ⟨h0, by show _ < (arrV _ _ _).slots.size; rw [arrV_size]; exact hlt⟩ g1 (fun q h => by rw [g3] at h; cases h) (by rw [g2]; exact hkC) (by rw [g2]; exact va_assign hcls) rfl rfl (dg _ rfl) fun H1 e z oq => ?_
      refine (KK _ _ _ _ h).2 H1 (locs ++ [⟨wB w + a, x.toNatClampNeg⟩]) ls (HR_setR hH ha ?_ z oq) h1 h2 (loc1 hl (Nat.le_add_right _ _)) hls
      rw [cellRs (M := setR M a x.toNatClampNeg v) hta (by omega)]
      show H1[wB w + a]? = some (vp_cell _ _)
      rw [e, vp_cell_q, vp_cell_q, arrV_store]
      congr 2
      funext q
      show updV _ _ _ _ = va_rf (rfO w (up2 (mR M) a x.toNatClampNeg v a q))
      by_cases hq : q = x.toNatClampNeg
      · subst hq
        rw [up2_same]
        have hv9 : mN M ≤ 900000 := hH.2.2.2.1
        have : rfO w v = some (wB w + v) := by unfold rfO; rw [if_neg (by omega), hrv]
        rw [this]
        simp [updV, va_rf]
      · rw [up2_other _ _ _ hq]
        simp [updV, hq]
    rcases ht with ⟨h14, h4⟩ | ⟨h15, h0'⟩
    · exact g 14 4 3 _ _ _ (by omega) (by omega) h14 h4 rfl rfl
    · exact g 15 0 4 _ _ _ (by omega) (by omega) h15 h0' rfl rfl
end G
end
section
set_option maxRecDepth 100000 in
theorem aclW : lw_tbl[142]? = some (.arrayClass .int) ∧ lw_tbl[115]? = some (.arrayClass .char) ∧ lw_tbl[211]? = some (.arrayClass .boolean) := by decide +kernel
set_option maxRecDepth 100000 in
theorem mnaW : lw_tbl[234]? = some (.classLink "KnotNames" 67 "[[I") := by decide +kernel
theorem rows_N : ∀ (j k : Nat) (M : Mem), mN (rows j k M) = mN M + j ∧ mS (rows j k M) = mS M + j * k := by
  intro j
  induction j with
  | zero => intro k M; exact ⟨rfl, by show mS M = _; omega⟩
  | succ j ih =>
    intro k M
    have := ih k (fresh M 10 k k)
    refine ⟨?_, ?_⟩
    · show mN (rows j k (fresh M 10 k k)) = _
      rw [this.1]
      show mN M + 1 + j = _
      omega
    · show mS (rows j k (fresh M 10 k k)) = _
      rw [this.2]
      show mS M + k + j * k = _
      rw [Nat.succ_mul]
      omega
theorem rows_C : ∀ (j k : Nat) (M : Mem) (b : Nat), (mN M ≤ b ∧ b < mN M + j → mC (rows j k M) b = 10 ∧ mL (rows j k M) b = k ∧ (∀ q, mI (rows j k M) b q = 0) ∧ (∀ q, mJ (rows j k M) b q = 0) ∧ (∀ q, mR (rows j k M) b q = 999999)) ∧
    (¬ (mN M ≤ b ∧ b < mN M + j) → mC (rows j k M) b = mC M b ∧ mL (rows j k M) b = mL M b ∧ mI (rows j k M) b = mI M b ∧ mJ (rows j k M) b = mJ M b ∧ mR (rows j k M) b = mR M b) := by
  intro j
  induction j with
  | zero => intro k M b; exact ⟨fun h => by omega, fun _ => ⟨rfl, rfl, rfl, rfl, rfl⟩⟩
  | succ j ih =>
    intro k M b
    have hb := ih k (fresh M 10 k k) b
    have hN : mN (fresh M 10 k k) = mN M + 1 := rfl
    rw [hN] at hb
    show (_ → mC (rows j k (fresh M 10 k k)) b = 10 ∧ mL (rows j k (fresh M 10 k k)) b = k ∧ (∀ q, mI (rows j k (fresh M 10 k k)) b q = 0) ∧ (∀ q, mJ (rows j k (fresh M 10 k k)) b q = 0) ∧ (∀ q, mR (rows j k (fresh M 10 k k)) b q = 999999)) ∧ (_ → mC (rows j k (fresh M 10 k k)) b = mC M b ∧ mL (rows j k (fresh M 10 k k)) b = mL M b ∧ mI (rows j k (fresh M 10 k k)) b = mI M b ∧ mJ (rows j k (fresh M 10 k k)) b = mJ M b ∧ mR (rows j k (fresh M 10 k k)) b = mR M b)
    constructor
    · intro h
      by_cases e : b = mN M
      · obtain ⟨q1, q2, q3, q4, q5⟩ := hb.2 (by omega)
        rw [q1, q2, q3, q4, q5]
        subst e
        refine ⟨?_, ?_, fun q => ?_, fun q => ?_, fun q => ?_⟩
        · show va_up _ _ _ _ = _; unfold va_up; rw [if_pos rfl]
        · show va_up _ _ _ _ = _; unfold va_up; rw [if_pos rfl]
        · show (if _ then _ else _) = _; rw [if_pos rfl]
        · show (if _ then _ else _) = _; rw [if_pos rfl]
        · show (if _ then _ else _) = _; rw [if_pos rfl]
      · exact hb.1 (by omega)
    · intro h
      have e : b ≠ mN M := by omega
      obtain ⟨q1, q2, q3, q4, q5⟩ := hb.2 (by omega)
      rw [q1, q2, q3, q4, q5]
      refine ⟨?_, ?_, ?_, ?_, ?_⟩
      · show va_up _ _ _ _ = _; unfold va_up; rw [if_neg e]
      · show va_up _ _ _ _ = _; unfold va_up; rw [if_neg e]
      · funext q; show (if _ then _ else _) = _; rw [if_neg e]
      · funext q; show (if _ then _ else _) = _; rw [if_neg e]
      · funext q; show (if _ then _ else _) = _; rw [if_neg e]
theorem grid_f (M : Mem) (n k : Nat) : mN (grid M n k) = mN M + 1 + n ∧ mS (grid M n k) = mS M + n + n * k ∧ mC (grid M n k) = mC (rows n k (fresh M 16 n n)) ∧ mL (grid M n k) = mL (rows n k (fresh M 16 n n)) ∧ mI (grid M n k) = mI (rows n k (fresh M 16 n n)) ∧ mJ (grid M n k) = mJ (rows n k (fresh M 16 n n)) ∧ mR (grid M n k) = fun x j => if x = mN M ∧ j < n then mN M + 1 + j else mR (rows n k (fresh M 16 n n)) x j := by
  have h := rows_N n k (fresh M 16 n n)
  refine ⟨?_, ?_, rfl, rfl, rfl, rfl, rfl⟩
  · show mN (rows n k (fresh M 16 n n)) = _
    rw [h.1]
    show mN M + 1 + n = _
    rfl
  · show mS (rows n k (fresh M 16 n n)) = _
    rw [h.2]
    rfl
section G
variable {w : WP} {p : Program} {l : Launch} {e : Env} {R : Room} {s : State} {m : MethodId} {args : Array Value} {below : List Frame} {meth : Method} {c : Code} {Q : State → Prop} {nL n0 s0 nT sT : Nat} {cc : ByteArray} {o : Nat} {ini : Bool}
theorem fr_C (M : Mem) (t len sl : Nat) : mC (fresh M t len sl) (mN M) = t := by show va_up _ _ _ _ = _; unfold va_up; rw [if_pos rfl]
theorem fr_L (M : Mem) (t len sl : Nat) : mL (fresh M t len sl) (mN M) = len := by show va_up _ _ _ _ = _; unfold va_up; rw [if_pos rfl]
theorem fr_I (M : Mem) (t len sl j : Nat) : mI (fresh M t len sl) (mN M) j = 0 := by show (if _ then _ else _) = _; rw [if_pos rfl]
theorem fr_J (M : Mem) (t len sl j : Nat) : mJ (fresh M t len sl) (mN M) j = 0 := by show (if _ then _ else _) = _; rw [if_pos rfl]
theorem fr_R (M : Mem) (t len sl j : Nat) : mR (fresh M t len sl) (mN M) j = 999999 := by show (if _ then _ else _) = _; rw [if_pos rfl]
set_option maxHeartbeats 4000000 in
theorem st_new {i : Instr} {pc : Nat} {lv : LV} {st : List Value} {M : Mem} {K : Nat → LV → List Value → Mem → Option (Option Value × Mem)} {res : Option Value × Mem} (cx : Cx w p R s m args meth c cc o nL n0 s0 nT sT ini) (dg : ∀ k, lenI i = some k → decode cc pc = .ok (i, k))
    (hi : (∃ n, i = .new n) ∨ (∃ t, i = .newarray t) ∨ (∃ n, i = .anewarray n))
    (KK : ∀ pc' lv' st' M', K pc' lv' st' M' = some res → (mN M' ≤ nT ∧ mS M' ≤ sT) ∧ Gd w p l e R s m args below meth c nL n0 s0 Q pc' lv' st' M') (h : stH none K o ini pc lv st M i = some res) : Gd w p l e R s m args below meth c nL n0 s0 Q pc lv st M := by
  obtain ⟨hx, hb, hml, hown, hSt, hold, hsz, hRc, hRs, hin⟩ := cx
  intro H locs ls hH h1 h2 hl hls
  have hK := hSt.2.1
  rcases hi with ⟨n, rfl⟩ | ⟨t, rfl⟩ | ⟨n, rfl⟩
  · unfold stH at h
    dsimp only at h
    split at h
    next q hq =>
      obtain ⟨⟨hlim, hc8⟩, h⟩ := if_s h
      have hk := kR_ok _ (asc2_mem hq)
      rcases hk with ⟨-, hw⟩ | h16
      · dsimp only at hw
        obtain ⟨C, T, N, ty, hcls⟩ := cls_ok hc8
        obtain ⟨hcl, hws, hty, hnm, hN, htk, hfin, hdecl, hC, hinst, hini⟩ := id hcls
        have hKn := hK.1 q.1 _ hcl
        obtain ⟨⟨b1, b2⟩, hG⟩ := KK _ _ _ _ h
        have b1' : mN M + 1 ≤ nT := b1
        have b2' : mS M + nf q.1 ≤ sT := b2
        refine W.newcK (C := C) (n := N) hx hb hown (by rw [hC]; exact hSt.1 _ (List.mem_of_getElem? hw) rfl args) (hSt.1 _ hinst rfl args) (hSt.1 _ hini rfl args) rfl (dg _ rfl) (by omega) (by omega) hKn.2.1 (h := wB w + mN M) hH.1 fun H1 kC hkC e1 z1 o1 => ?_
        refine W.cs (cells' := mN (fresh M q.1 0 (nf q.1)) - n0) (slots' := mS (fresh M q.1 0 (nf q.1)) - s0) (by show _ = mN M + 1 - n0; omega) (by show _ = mS M + nf q.1 - s0; omega) ?_
        have hres := hG H1 locs ls (HR_fresh hH hlim (by unfold old; omega) ?_ (by rw [z1, hH.1]) (fun x hx => o1 x (by rw [← hH.1]; exact hx))) (by show n0 ≤ mN M + 1; omega) (by show s0 ≤ mS M + nf q.1; omega) hl hls
        · have ee : mv w (.ref (mN M)) = .ref (wB w + mN M) := by show Value.ref (rho w (mN M)) = _; rw [rho_lo (by omega)]
          show W p l e R s m args below meth c H1 locs _ _ Q (F0 m (pc + 3) ls (.ref (wB w + mN M) :: st.map (mv w)))
          rw [← ee]
          exact hres
        · rw [cellO (fr_C M q.1 0 (nf q.1)) hc8]
          refine ⟨_, hcl, (u_born ty (St_ws (args := args) hSt hws) (fun _ x => x) hKn hkC e1 hty).to fun j hj => ?_⟩
          show _ = (flds w (fresh M q.1 0 (nf q.1)) (mN M) q.1).getD j .null
          rw [List.getD_eq_getElem?_getD, flds_get _ _ _ (by omega)]
          show _ = fV w (fresh M q.1 0 (nf q.1)) (mN M) q.1 j
          unfold fV
          rw [fr_I, fr_J, fr_R]
          rcases htk j hj with ⟨q1, q2⟩ | ⟨q1, q2⟩ | ⟨q1, q2⟩
          · rw [q1, q2]; rfl
          · rw [q1, q2]; rfl
          · rw [q1]
            cases hq9 : ty j <;> rw [hq9] at q2 <;> first | rfl | cases q2
      · dsimp only at h16
        omega
    next => cases h
  · obtain ⟨x, r, rfl, h3⟩ := pI_s h
    clear h
    obtain ⟨⟨hlim, hx0, hx1⟩, h⟩ := if_s h3
    have g : ∀ (tag j wi : Nat) (ty : FieldType), (tag = 10 ∨ tag = 11 ∨ tag = 12) → Op.newarray.typeOf t = ty → lw_tbl[wi]? = some (.arrayClass ty) → (tysW w)[j]? = some (wA w tag, ty) → (∀ cA, s.vm.findClass ("[" ++ ty.toString) = some cA → cA = wA w tag) → defaultValue ty = .int 0 → componentBytes ty ≤ 4 → K (pc + 2) lv (.ref (mN M) :: r) (fresh M tag x.toNatClampNeg x.toNatClampNeg) = some res → W p l e R s m args below meth c H locs (mN M - n0) (mS M - s0) Q (F0 m pc ls (.int x :: r.map (mv w))) := by
      intro tag j wi ty htag hty hw hj hcA hdv hcb h
      obtain ⟨⟨b1, b2⟩, hG⟩ := KK _ _ _ _ h
      have b1' : mN M + 1 ≤ nT := b1
      have b2' : mS M + x.toNatClampNeg ≤ sT := b2
      have hmul : x.toNatClampNeg * componentBytes (Op.newarray.typeOf t) ≤ 1000 * 4 := by rw [hty]; exact Nat.mul_le_mul hx1 hcb
      refine va_newaK hx hb (by rw [hty]; exact hSt.1 _ (List.mem_of_getElem? hw) rfl args) rfl (dg _ rfl) rfl hx0 rfl (by omega) (by omega) (by omega) (h := wB w + mN M) hH.1 fun H1 cA e1 z1 o1 hAr hNm => ?_
      refine W.cs (cells' := mN (fresh M tag x.toNatClampNeg x.toNatClampNeg) - n0) (slots' := mS (fresh M tag x.toNatClampNeg x.toNatClampNeg) - s0) (by show _ = mN M + 1 - n0; omega) (by show _ = mS M + x.toNatClampNeg - s0; omega) ?_
      have hres := hG H1 locs ls (HR_fresh hH hlim (by unfold old; omega) ?_ (by rw [z1, hH.1]) (fun y hy => o1 y (by rw [← hH.1]; exact hy))) (by show n0 ≤ mN M + 1; omega) (by show s0 ≤ mS M + x.toNatClampNeg; omega) hl hls
      · have ee : mv w (.ref (mN M)) = .ref (wB w + mN M) := by show Value.ref (rho w (mN M)) = _; rw [rho_lo (by omega)]
        show W p l e R s m args below meth c H1 locs _ _ Q (F0 m (pc + 2) ls (.ref (wB w + mN M) :: r.map (mv w)))
        rw [← ee]
        exact hres
      · rw [cellIs (fr_C M tag x.toNatClampNeg x.toNatClampNeg) htag]
        show H1[wB w + mN M]? = some (vp_cell _ _)
        rw [hty] at hNm e1
        rw [e1, hcA cA hNm, vp_cell_i, fr_L, hdv]
        congr 2
        funext q
        rw [fr_I]
    have f0 : s.vm.findClass ("[" ++ FieldType.int.toString) = some (wA w 10) := (hK.2 0 _ rfl).2
    have f1 : s.vm.findClass ("[" ++ FieldType.char.toString) = some (wA w 11) := (hK.2 1 _ rfl).2
    have f2 : s.vm.findClass ("[" ++ FieldType.boolean.toString) = some (wA w 12) := (hK.2 2 _ rfl).2
    split at h
    · exact g 10 0 142 .int (by omega) rfl aclW.1 rfl (fun cA hc => (Option.some.inj (f0.symm.trans hc)).symm) rfl (by decide) h
    · exact g 11 1 115 .char (by omega) rfl aclW.2.1 rfl (fun cA hc => (Option.some.inj (f1.symm.trans hc)).symm) rfl (by decide) h
    · exact g 12 2 211 .boolean (by omega) rfl aclW.2.2 rfl (fun cA hc => (Option.some.inj (f2.symm.trans hc)).symm) rfl (by decide) h
    · cases h
  · unfold stH at h
    dsimp only at h
    split at h
    next q hq =>
      obtain ⟨x, r, rfl, h3⟩ := pI_s h
      clear h
      obtain ⟨⟨hlim, hx0, hx1⟩, h⟩ := if_s h3
      have hk := kR_ok _ (asc2_mem hq)
      have g : ∀ (tag j : Nat) (C : String), (tag = 14 ∨ tag = 15) → (Cond.classLink (nm o) n C).before args s = true → va_AO C s → (tysW w)[j]? = some (wA w tag, .object C) → K (pc + 3) lv (.ref (mN M) :: r) (fresh M tag x.toNatClampNeg x.toNatClampNeg) = some res → W p l e R s m args below meth c H locs (mN M - n0) (mS M - s0) Q (F0 m pc ls (.int x :: r.map (mv w))) := by
        intro tag j C htag hcl hao hj h
        obtain ⟨⟨b1, b2⟩, hG⟩ := KK _ _ _ _ h
        have b1' : mN M + 1 ≤ nT := b1
        have b2' : mS M + x.toNatClampNeg ≤ sT := b2
        refine W.anew hx hb hown hcl (va_AO.use hao) rfl (dg _ rfl) rfl hx0 (by omega) (by omega) (by omega) fun cA kA comp f1 f2 f3 f4 => ?_
        generalize hH1 : H.push ({ cls := cA, slots := Array.replicate x.toNatClampNeg .null, vm := .none } : Cell) = H1
        have z1 : H1.size = H.size + 1 := by rw [← hH1, Array.size_push]
        have e1 : H1[H.size]? = some (arrV cA x.toNatClampNeg (fun _ => .null)) := by rw [← hH1, Array.getElem?_push_size, ← arrV_new]
        have o1 : ∀ q : Nat, q < H.size → H1[q]? = H[q]? := fun q hq => by rw [← hH1, Array.getElem?_push, if_neg (Nat.ne_of_lt hq)]
        obtain ⟨kA', comp', -, -, -, f5⟩ := (hK.2 j _ hj).2
        have hcA : cA = wA w tag := Option.some.inj (f1.symm.trans f5)
        subst hcA
        refine W.cs (cells' := mN (fresh M tag x.toNatClampNeg x.toNatClampNeg) - n0) (slots' := mS (fresh M tag x.toNatClampNeg x.toNatClampNeg) - s0) (by show _ = mN M + 1 - n0; omega) (by show _ = mS M + x.toNatClampNeg - s0; omega) ?_
        have hres := hG H1 locs ls (HR_fresh hH hlim (by unfold old; omega) ?_ z1 o1) (by show n0 ≤ mN M + 1; omega) (by show s0 ≤ mS M + x.toNatClampNeg; omega) hl hls
        · have ee : mv w (.ref (mN M)) = .ref H.size := by show Value.ref (rho w (mN M)) = _; rw [rho_lo (by omega), hH.1]
          show W p l e R s m args below meth c H1 locs _ _ Q (F0 m (pc + 3) ls (.ref H.size :: r.map (mv w)))
          rw [← ee]
          exact hres
        · rw [cellRs (fr_C M tag x.toNatClampNeg x.toNatClampNeg) (by omega)]
          show H1[wB w + mN M]? = some (vp_cell _ _)
          rw [← hH.1, e1, vp_cell_q, fr_L]
          congr 2
          funext q
          rw [fr_R]
          rfl
      split at h
      next hq0 =>
        rcases hk with ⟨-, hw⟩ | h16
        · dsimp only at hw
          rw [hq0] at hw
          exact g 15 4 "KnotNames$Camp" (by omega) (hSt.1 _ (List.mem_of_getElem? hw) rfl args) hSt.2.2.2.2.2.2.2.1 rfl h
        · dsimp only at h16
          omega
      next hq4 =>
        rcases hk with ⟨-, hw⟩ | h16
        · dsimp only at hw
          rw [hq4] at hw
          exact g 14 3 "KnotNames$Row" (by omega) (hSt.1 _ (List.mem_of_getElem? hw) rfl args) hSt.2.2.2.2.2.2.1 rfl h
        · dsimp only at h16
          omega
      next => cases h
    next => cases h
theorem gr_outer (c : ClassId) (N h0 : Nat) : ∀ i : Nat, Jvm.Free.Multi.outerC c N h0 i = arrV c N (fun j => va_rf (if j < i then some (h0 + 1 + j) else none))
  | 0 => by
    show ({ cls := c, slots := Array.replicate N .null, vm := .none } : Cell) = _
    rw [arrV_new]
    refine congrArg (arrV c N) (funext fun j => ?_)
    simp [va_rf]
  | i + 1 => by
    show (Jvm.Free.Multi.outerC c N h0 i).setSlot i (.ref (h0 + 1 + i)) = _
    rw [gr_outer c N h0 i, arrV_store]
    refine congrArg (arrV c N) (funext fun j => ?_)
    by_cases e : j = i
    · subst e
      simp [updV, va_rf]
    · by_cases h : j < i
      · simp [updV, e, h, Nat.lt_succ_of_lt h]
      · simp [updV, e, h, show ¬ j < i + 1 by omega]
set_option maxHeartbeats 4000000 in
theorem st_mna {n0' dm : Nat} {pc : Nat} {lv : LV} {st : List Value} {M : Mem} {K : Nat → LV → List Value → Mem → Option (Option Value × Mem)} {res : Option Value × Mem} (cx : Cx w p R s m args meth c cc o nL n0 s0 nT sT ini) (dg : decode cc pc = .ok (.multianewarray n0' dm, 4))
    (KK : ∀ pc' lv' st' M', K pc' lv' st' M' = some res → (mN M' ≤ nT ∧ mS M' ≤ sT) ∧ Gd w p l e R s m args below meth c nL n0 s0 Q pc' lv' st' M') (h : stH none K o ini pc lv st M (.multianewarray n0' dm) = some res) : Gd w p l e R s m args below meth c nL n0 s0 Q pc lv st M := by
  obtain ⟨hx, hb, hml, hown, hSt, hold, hsz, hRc, hRs, hin⟩ := cx
  intro H locs ls hH h1 h2 hl hls
  have hK := hSt.2.1
  obtain ⟨⟨ho, hn', hdm⟩, h⟩ := if_s h
  subst ho
  subst hn'
  subst hdm
  obtain ⟨n, k, r, rfl, h3⟩ := pII_s h
  clear h
  obtain ⟨⟨hlim, ⟨hn0, hn1⟩, ⟨hk0, hk1⟩⟩, h⟩ := if_s h3
  obtain ⟨⟨b1, b2⟩, hG⟩ := KK _ _ _ _ h
  obtain ⟨gN, gS, gC, gL, gI, gJ, gR⟩ := grid_f M n.toNatClampNeg k.toNatClampNeg
  rw [gN] at b1
  rw [gS] at b2
  intro T hT X
  have hmul : k.toNatClampNeg * componentBytes FieldType.int ≤ 1000 * 4 := Nat.mul_le_mul hk1 (by decide)
  obtain ⟨vm₁, cA, comp, -, fA, fC, hO, -, X', step⟩ := X.multianewarray2F hx hown (index := 67) (ty := .int) (hSt.1 _ (List.mem_of_getElem? mnaW) rfl args) (va_AOA.use hSt.2.2.2.2.2.2.2.2) (hSt.1 _ (List.mem_of_getElem? aclW.1) rfl args) (g := F0 m pc ls (.int k :: .int n :: r.map (mv w))) rfl (by rw [hb]; exact dg) rfl hn0 hk0 (by omega) (by omega) (by omega) rfl rfl (by omega) (by omega)
  have f0 : s.vm.findClass ("[" ++ FieldType.int.toString) = some (wA w 10) := (hK.2 0 _ rfl).2
  have f5 : s.vm.findClass ("[" ++ (FieldType.array .int).toString) = some (wA w 16) := (hK.2 5 _ rfl).2
  have ec : wA w 10 = comp := Option.some.inj (f0.symm.trans fC)
  have eA : wA w 16 = cA := Option.some.inj (f5.symm.trans fA)
  subst ec
  subst eA
  generalize hF : Jvm.Free.Multi.fill (T.setVm vm₁) (wA w 16) (wA w 10) n.toNatClampNeg k.toNatClampNeg (defaultValue .int) n.toNatClampNeg = F at X' step
  have hTh : (T.setVm vm₁).heap = H := hT
  obtain ⟨z1, z2, -, -⟩ := Jvm.Free.Multi.fill_facts (T.setVm vm₁) (wA w 16) (wA w 10) n.toNatClampNeg k.toNatClampNeg (defaultValue .int) n.toNatClampNeg
  rw [hF, hTh] at z1 z2
  have hfo : ∀ x : Nat, x < H.size → F.heap[x]? = H[x]? := fun x hx => by
    have := Jvm.Free.Multi.fill_old (T.setVm vm₁) (wA w 16) (wA w 10) n.toNatClampNeg k.toNatClampNeg (defaultValue .int) (a := x) (by rw [hTh]; exact hx) n.toNatClampNeg
    rw [hF, hTh] at this
    exact this
  have hrow : ∀ j : Nat, j < n.toNatClampNeg → F.heap[H.size + 1 + j]? = some (arrV (wA w 10) k.toNatClampNeg (fun _ => .int 0)) := fun j hj => by
    have := Jvm.Free.Multi.fill_inner (T.setVm vm₁) (wA w 16) (wA w 10) n.toNatClampNeg k.toNatClampNeg (defaultValue .int) n.toNatClampNeg j hj
    rw [hF, hTh] at this
    rw [this, ← arrV_new]
    rfl
  rw [gr_outer] at z2
  have hR0 := rows_C n.toNatClampNeg k.toNatClampNeg (fresh M 16 n.toNatClampNeg n.toNatClampNeg)
  have hN1 : mN (fresh M 16 n.toNatClampNeg n.toNatClampNeg) = mN M + 1 := rfl
  rw [hN1] at hR0
  obtain ⟨q1, q2, q3, q4, q5, q6, q7, q8, q9⟩ := id hH
  have fne : ∀ b, b ≠ mN M → mC (fresh M 16 n.toNatClampNeg n.toNatClampNeg) b = mC M b ∧ mL (fresh M 16 n.toNatClampNeg n.toNatClampNeg) b = mL M b ∧ mI (fresh M 16 n.toNatClampNeg n.toNatClampNeg) b = mI M b ∧ mJ (fresh M 16 n.toNatClampNeg n.toNatClampNeg) b = mJ M b ∧ mR (fresh M 16 n.toNatClampNeg n.toNatClampNeg) b = mR M b := by
    intro b hb
    refine ⟨?_, ?_, ?_, ?_, ?_⟩
    · show va_up _ _ _ _ = _; unfold va_up; rw [if_neg hb]
    · show va_up _ _ _ _ = _; unfold va_up; rw [if_neg hb]
    · funext j; show (if _ then _ else _) = _; rw [if_neg hb]
    · funext j; show (if _ then _ else _) = _; rw [if_neg hb]
    · funext j; show (if _ then _ else _) = _; rw [if_neg hb]
  -- what the grid is at each address
  have out : ∀ b, ¬ (mN M ≤ b ∧ b < mN M + 1 + n.toNatClampNeg) → mC (grid M n.toNatClampNeg k.toNatClampNeg) b = mC M b ∧ mL (grid M n.toNatClampNeg k.toNatClampNeg) b = mL M b ∧ mI (grid M n.toNatClampNeg k.toNatClampNeg) b = mI M b ∧ mJ (grid M n.toNatClampNeg k.toNatClampNeg) b = mJ M b ∧ mR (grid M n.toNatClampNeg k.toNatClampNeg) b = mR M b := by
    intro b hb
    obtain ⟨r1, r2, r3, r4, r5⟩ := (hR0 b).2 (by omega)
    obtain ⟨u1, u2, u3, u4, u5⟩ := fne b (by omega)
    refine ⟨by rw [gC, r1, u1], by rw [gL, r2, u2], by rw [gI, r3, u3], by rw [gJ, r4, u4], ?_⟩
    rw [gR]
    funext j
    show (if _ then _ else _) = _
    rw [if_neg (fun q => by omega), r5, u5]
  have inr : ∀ b, mN M + 1 ≤ b ∧ b < mN M + 1 + n.toNatClampNeg → mC (grid M n.toNatClampNeg k.toNatClampNeg) b = 10 ∧ mL (grid M n.toNatClampNeg k.toNatClampNeg) b = k.toNatClampNeg ∧ (∀ j, mI (grid M n.toNatClampNeg k.toNatClampNeg) b j = 0) := by
    intro b hb
    obtain ⟨r1, r2, r3, r4, r5⟩ := (hR0 b).1 hb
    exact ⟨by rw [gC, r1], by rw [gL, r2], fun j => by rw [gI, r3]⟩
  have onn : mC (grid M n.toNatClampNeg k.toNatClampNeg) (mN M) = 16 ∧ mL (grid M n.toNatClampNeg k.toNatClampNeg) (mN M) = n.toNatClampNeg ∧ ∀ j, j < n.toNatClampNeg → mR (grid M n.toNatClampNeg k.toNatClampNeg) (mN M) j = mN M + 1 + j := by
    obtain ⟨r1, r2, r3, r4, r5⟩ := (hR0 (mN M)).2 (by omega)
    refine ⟨by rw [gC, r1, fr_C], by rw [gL, r2, fr_L], fun j hj => ?_⟩
    rw [gR]
    show (if _ then _ else _) = _
    rw [if_pos ⟨rfl, hj⟩]
  have hHR : HR w (grid M n.toNatClampNeg k.toNatClampNeg) F.heap := by
    refine ⟨by rw [z1, gN, q1]; omega, fun q hq => by rw [hfo q (by omega)]; exact q2 q hq, fun b hb => ?_, by rw [gN]; omega, ?_, ?_, ?_, ?_, ?_⟩
    · rw [gN] at hb
      by_cases e0 : b = mN M
      · subst e0
        rw [cellRs onn.1 (by omega), onn.2.1]
        show F.heap[wB w + mN M]? = some (vp_cell _ _)
        rw [← q1, z2, vp_cell_q]
        congr 1
        unfold arrV
        congr 2
        funext j
        have hj := j.isLt
        show va_rf (if _ then _ else _) = va_rf (rfO w (mR (grid M n.toNatClampNeg k.toNatClampNeg) (mN M) j.val))
        rw [if_pos hj, onn.2.2 _ hj]
        unfold rfO
        rw [if_neg (by omega), rho_lo (by omega), q1]
        congr 2
        omega
      · by_cases e1 : b < mN M
        · obtain ⟨u1, u2, u3, u4, u5⟩ := out b (by omega)
          have hc : cellE w (grid M n.toNatClampNeg k.toNatClampNeg) b = cellE w M b := by
            unfold cellE flds
            have hfv : fV w (grid M n.toNatClampNeg k.toNatClampNeg) b (mC M b) = fV w M b (mC M b) := by
              funext j
              unfold fV
              rw [u3, u4, u5]
            rw [u1, u2, u3, u5, hfv]
          rw [hc]
          exact (q3 b e1).kept (hfo _ (show wB w + b < H.size by omega))
        · obtain ⟨u1, u2, u3⟩ := inr b (by omega)
          rw [cellIs u1 (by omega), u2]
          show F.heap[wB w + b]? = some (vp_cell _ _)
          have := hrow (b - (mN M + 1)) (by omega)
          rw [show H.size + 1 + (b - (mN M + 1)) = wB w + b by omega] at this
          rw [this, vp_cell_i]
          congr 2
          funext j
          rw [u3]
    · intro b hb
      rw [gN]
      by_cases e0 : mN M ≤ b ∧ b < mN M + 1 + n.toNatClampNeg
      · omega
      · rw [(out b e0).1] at hb
        have := q5 b hb
        omega
    · intro b hb
      rw [gN] at hb
      by_cases e0 : b < mN M
      · rw [(out b (by omega)).1]
        exact q6 b e0
      · by_cases e1 : b = mN M
        · rw [e1, onn.1]; unfold old; omega
        · rw [(inr b (by omega)).1]; unfold old; omega
    all_goals
      intro b hb
      have e0 : ¬ (mN M ≤ b ∧ b < mN M + 1 + n.toNatClampNeg) := by
        intro q
        by_cases e1 : b = mN M
        · rw [e1, onn.1] at hb; omega
        · rw [(inr b (by omega)).1] at hb; omega
      obtain ⟨u1, u2, u3, u4, u5⟩ := out b e0
      rw [u1] at hb
    · rw [u2, u3]; exact q7 b hb
    · rw [u2, u3]; exact q8 b hb
    · rw [u5, u3]; exact q9 b hb
  have hW := hG F.heap locs ls hHR (by rw [gN]; omega) (by rw [gS]; omega) hl hls
  have hW := W.cs (cells := mN M - n0 + 1 + n.toNatClampNeg) (slots := mS M - s0 + n.toNatClampNeg + n.toNatClampNeg * k.toNatClampNeg) (by rw [gN]; omega) (by rw [gS]; omega) hW
  obtain ⟨t, a1, c1⟩ := hW F rfl X'
  refine ⟨t, step t ?_, c1⟩
  have ee : mv w (.ref (mN M)) = .ref T.heap.size := by show Value.ref (rho w (mN M)) = _; rw [rho_lo (by omega), hT, hH.1]
  rw [← ee]
  exact a1
end G
end
section
abbrev SR : Type := (Nat × LV × List Value × Mem) ⊕ (Nat × List Value × List Value × Nat) ⊕ Option Value
def elS {α : Type} (F : α) (K : Nat → LV → List Value → Mem → α) (C : Nat → List Value → List Value → Nat → α) (T : Option Value → α) (r : Option SR) : α := match r with
  | none => F
  | some (.inl (a, b, c, d)) => K a b c d
  | some (.inr (.inl (a, b, c, d))) => C a b c d
  | some (.inr (.inr v)) => T v
def s0K : Nat → LV → List Value → Mem → Option SR := fun a b c d => some (.inl (a, b, c, d))
def s0C : Nat → List Value → List Value → Nat → Option SR := fun a b c d => some (.inr (.inl (a, b, c, d)))
def s0T : Option Value → Option SR := fun v => some (.inr (.inr v))
theorem swt_nat {α β : Type} (f : α → β) (k : Int → α) (dflt : Int) : ∀ (offs : List Int) (lo x : Int), f (swt k dflt offs lo x) = swt (fun a => f (k a)) dflt offs lo x := by
  intro offs
  induction offs with
  | nil => intro lo x; rfl
  | cons a r ih =>
    intro lo x
    unfold swt
    split
    · rfl
    · exact ih _ _
theorem swl_nat {α β : Type} (f : α → β) (k : Int → α) (dflt : Int) : ∀ (ps : List (Int × Int)) (x : Int), f (swl k dflt ps x) = swl (fun a => f (k a)) dflt ps x := by
  intro ps
  induction ps with
  | nil => intro x; rfl
  | cons a r ih =>
    intro x
    obtain ⟨a1, a2⟩ := a
    unfold swl
    split
    · rfl
    · exact ih _
section Nat1
variable {α : Type} (F : α) (K : Nat → LV → List Value → Mem → α) (C : Nat → List Value → List Value → Nat → α) (T : Option Value → α) (d o mxl : Nat) (rt : Option FieldType) (ini : Bool) (pc : Nat) (lv : LV) (st : List Value) (M : Mem)
set_option maxHeartbeats 4000000 in
theorem stA_nat (i : Instr) : stA F K o mxl pc lv st M i = elS F K C T (stA none s0K o mxl pc lv st M i) := by
  unfold stA gI gL gR pI pL pR
  repeat' (first | rfl | split | dsimp only)
set_option maxHeartbeats 4000000 in
theorem stB_nat (i : Instr) : stB F K pc lv st M i = elS F K C T (stB none s0K pc lv st M i) := by
  unfold stB pI pII pL pLL
  repeat' (first | rfl | split | dsimp only)
set_option maxHeartbeats 4000000 in
theorem stH_nat (i : Instr) : stH F K o ini pc lv st M i = elS F K C T (stH none s0K o ini pc lv st M i) := by
  unfold stH pR pIR pLR pRR pIIR pRIR pI pII
  repeat' (first | rfl | split | dsimp only)
set_option maxHeartbeats 4000000 in
theorem stV_nat (i : Instr) : stV F K C d o pc lv st M i = elS F K C T (stV none s0K s0C d o pc lv st M i) := by
  unfold stV pR pI pII pLL
  repeat' (first | rfl | split | dsimp only)
set_option maxHeartbeats 4000000 in
theorem stT_nat (i : Instr) : stT F T rt st i = elS F K C T (stT none s0T rt st i) := by
  unfold stT
  repeat' (first | rfl | split | dsimp only)
theorem jmp_nat {β : Type} (f : α → β) (F : α) (pc : Nat) (off : Int) (k : Nat → α) : f (jmp F pc off k) = jmp (f F) pc off (fun t => f (k t)) := by
  unfold jmp
  split <;> rfl
set_option maxHeartbeats 4000000 in
theorem stJ_nat (i : Instr) : stJ F K pc lv st M i = elS F K C T (stJ none s0K pc lv st M i) := by
  unfold stJ pI pII jmp
  split
  · repeat' (first | rfl | split | dsimp only)
  · repeat' (first | rfl | split | dsimp only)
  · repeat' (first | rfl | split | dsimp only)
  · split
    · split
      · dsimp only
        rw [swt_nat (elS F K C T)]
        congr 1
        funext off
        split <;> rfl
      · rfl
    · rfl
  · split
    · split
      · dsimp only
        rw [swl_nat (elS F K C T)]
        congr 1
        funext off
        split <;> rfl
      · rfl
    · rfl
  · rfl
theorem stC_nat (i : Instr) : stC F K C T d o mxl rt ini pc lv st M i = elS F K C T (stC none s0K s0C s0T d o mxl rt ini pc lv st M i) := by
  unfold stC
  split
  · exact stA_nat F K C T o mxl pc lv st M i
  · exact stB_nat F K C T pc lv st M i
  · exact stJ_nat F K C T pc lv st M i
  · exact stH_nat F K C T o ini pc lv st M i
  · exact stV_nat F K C T d o pc lv st M i
  · exact stT_nat F K C T rt st i
end Nat1
end
section
def mw_0 : List (Nat × Nat × Nat × Nat × Bool) := [(120, 80, 119, 0, false), (439, 80, 438, 13, false), (444, 80, 443, 14, false), (395, 80, 394, 4, false), (403, 80, 402, 6, false), (407, 80, 406, 7, false), (504, 80, 503, 24, false), (485, 80, 484, 21, false), (463, 80, 462, 16, false), (471, 80, 470, 18, false), (467, 80, 466, 17, false), (182, 84, 181, 0, false), (687, 84, 686, 44, false), (692, 84, 691, 0, true), (699, 84, 698, 45, false), (711, 84, 710, 47, false), (216, 85, 215, 0, false), (644, 85, 643, 38, false), (649, 85, 648, 39, false), (660, 85, 659, 41, false)]
def mw_1 : List (Nat × Nat × Nat × Nat × Bool) := [(162, 83, 161, 0, false), (500, 83, 499, 23, false), (559, 83, 558, 30, false), (430, 83, 429, 12, false), (127, 81, 126, 0, false), (451, 81, 450, 15, false), (518, 81, 517, 26, false), (399, 81, 398, 5, false), (426, 81, 425, 11, false), (422, 81, 421, 10, false), (415, 81, 414, 9, false), (496, 81, 495, 22, false), (411, 81, 410, 8, false), (535, 81, 534, 29, false), (703, 81, 702, 46, false), (508, 81, 507, 25, false), (531, 81, 530, 28, false), (527, 81, 526, 27, false), (656, 81, 655, 40, false), (479, 81, 478, 20, false)]
def mw_2 : List (Nat × Nat × Nat × Nat × Bool) := [(475, 81, 474, 19, false), (605, 81, 604, 36, false), (636, 81, 635, 37, false), (593, 81, 592, 34, false), (597, 81, 596, 35, false), (576, 81, 575, 32, false), (572, 81, 571, 31, false), (580, 81, 579, 33, false), (105, 79, 104, 0, false), (283, 79, 282, 0, false), (291, 79, 290, 1, false), (302, 79, 301, 0, true), (299, 79, 298, 2, false), (391, 79, 390, 3, false), (97, 78, 96, 0, false), (276, 78, 274, 275, false), (287, 78, 285, 286, false), (295, 78, 293, 294, false), (435, 78, 433, 434, false), (455, 78, 453, 454, false)]
def mw_3 : List (Nat × Nat × Nat × Nat × Bool) := [(459, 78, 457, 458, false), (489, 78, 487, 488, false), (514, 78, 512, 513, false), (523, 78, 521, 522, false), (541, 78, 539, 540, false), (546, 78, 544, 545, false), (551, 78, 549, 550, false), (555, 78, 553, 554, false), (563, 78, 561, 562, false), (568, 78, 566, 567, false), (584, 78, 582, 583, false), (589, 78, 587, 588, false), (601, 78, 599, 600, false), (612, 78, 610, 611, false), (632, 78, 630, 631, false), (640, 78, 638, 639, false), (667, 78, 665, 666, false), (683, 78, 681, 682, false), (707, 78, 705, 706, false), (715, 78, 713, 714, false)]
def mw_4 : List (Nat × Nat × Nat × Nat × Bool) := [(728, 78, 726, 727, false), (732, 78, 730, 731, false), (766, 78, 764, 765, false), (771, 78, 769, 770, false), (775, 78, 773, 774, false), (779, 78, 777, 778, false), (737, 78, 736, 48, false), (741, 78, 740, 49, false), (746, 78, 745, 50, false), (751, 78, 750, 51, false), (756, 78, 755, 52, false), (761, 78, 760, 53, false), (279, 78, 278, 0, true), (492, 78, 491, 0, true), (418, 78, 417, 0, true), (447, 78, 446, 0, true), (625, 78, 624, 0, true), (628, 78, 627, 0, true), (616, 78, 615, 0, true), (619, 78, 618, 0, true)]
def mw_5 : List (Nat × Nat × Nat × Nat × Bool) := [(672, 78, 671, 42, false), (677, 78, 676, 43, false), (784, 86, 783, 0, false), (854, 86, 853, 0, true), (1014, 86, 1013, 0, true), (929, 86, 928, 0, true), (1059, 86, 1058, 0, true), (877, 86, 876, 56, false), (938, 86, 937, 65, false), (934, 86, 933, 64, false), (850, 86, 848, 849, false), (858, 86, 856, 857, false), (873, 86, 872, 0, true), (866, 86, 865, 54, false), (870, 86, 869, 55, false), (862, 86, 860, 861, false), (880, 86, 879, 0, true), (888, 86, 887, 57, false), (884, 86, 882, 883, false), (893, 86, 891, 892, false)]
def mw_6 : List (Nat × Nat × Nat × Nat × Bool) := [(922, 86, 921, 63, false), (901, 86, 900, 58, false), (897, 86, 895, 896, false), (942, 86, 941, 66, false), (946, 86, 945, 67, false), (926, 86, 924, 925, false), (950, 86, 948, 949, false), (954, 86, 952, 953, false), (958, 86, 956, 957, false), (962, 86, 960, 961, false), (966, 86, 964, 965, false), (970, 86, 968, 969, false), (918, 86, 917, 62, false), (913, 86, 912, 61, false), (909, 86, 908, 60, false), (905, 86, 904, 59, false), (974, 86, 972, 973, false), (986, 86, 985, 69, false), (982, 86, 981, 68, false), (978, 86, 976, 977, false)]
def mw_7 : List (Nat × Nat × Nat × Nat × Bool) := [(990, 86, 988, 989, false), (998, 86, 997, 70, false), (994, 86, 992, 993, false), (1006, 86, 1005, 71, false), (1002, 86, 1000, 1001, false), (1017, 86, 1016, 0, true), (1010, 86, 1008, 1009, false), (1021, 86, 1019, 1020, false), (1031, 86, 1030, 72, false), (1026, 86, 1024, 1025, false), (1044, 86, 1043, 74, false), (1040, 86, 1039, 73, false), (1035, 86, 1033, 1034, false), (1056, 86, 1055, 76, false), (1052, 86, 1051, 75, false), (1048, 86, 1046, 1047, false), (1063, 86, 1061, 1062, false), (1067, 86, 1065, 1066, false), (1072, 86, 1070, 1071, false), (1077, 86, 1075, 1076, false)]
def mw_8 : List (Nat × Nat × Nat × Nat × Bool) := [(1086, 86, 1084, 1085, false), (1090, 86, 1088, 1089, false), (1094, 86, 1092, 1093, false), (1098, 86, 1096, 1097, false), (608, 92, 607, 0, true), (718, 92, 717, 0, true), (321, 87, 319, 320, false), (307, 87, 305, 306, false), (311, 87, 309, 310, false), (325, 87, 323, 324, false), (315, 87, 313, 314, false), (331, 88, 330, 0, true), (328, 88, 327, 0, true), (338, 88, 337, 0, true), (0, 0, 0, 0, true)]
def stNs : List MethodName := [yX1_seek, yX5_isTurnLetter, yX6_isWithin, yX6_isTurn, yX6_undoing, yX6_lengthOrTurn, yX6_takenFor, yX6_power, yX6_leastTerms, yX6_commonDivisor, yX7_in, yX7_isTwo, yX7_isTurn, yX7_bits, yX7_turnOf, yX7_copies, yX7_least, yJ6_compare_7cf53, yJ6_bitCount_0f7a4, yJ1_canEncode_9a6ad, yJ1_indexOf_4cfef, yJ1_indexOfChar_4cfef, yL_law]
def isSt (y : MethodName) : Bool := decide (y ∈ stNs)
def mOK (m : MT) (q : Nat × Nat × Nat × Nat × Bool) : Prop := lw_tbl[q.1]? = some (.code m.2.1 m.2.2.1 m.2.2.2.1 m.2.2.2.2.1) ∧ lw_tbl[q.2.1]? = some (.initialized m.2.1.cls) ∧ (m.2.1.cls = nm m.1 ∧ plainName m.2.1.cls = true ∧ (m.2.2.2.2.2.1 = true → m.2.1.name = "<init>") ∧ (m.2.1.cls ≠ "java/lang/invoke/MethodHandle" ∧ m.2.1.cls ≠ "java/lang/invoke/VarHandle")) ∧ m.2.2.2.1 ≤ 40 ∧
  ((isSt m.2.1 = true ∧ lw_tbl[q.2.2.1]? = some (.static m.2.1)) ∨ (isSt m.2.1 = false ∧ lw_tbl[q.2.2.1]? = some (.instanceMethod m.2.1) ∧ (m.2.1.name = "<init>" ∨ lw_tbl[q.2.2.2.1]? = some (.selects m.2.1.cls m.2.1 m.2.1))))
def all2 {α β : Type} (P : α → β → Prop) : List α → List β → Prop
  | a :: as, b :: bs => P a b ∧ all2 P as bs
  | _, _ => True
set_option maxRecDepth 100000 in
theorem mo_Camp_init : mOK m_Camp_init (120, 80, 119, 0, false) := ⟨rfl, by decide +kernel, by decide +kernel, by decide +kernel, by decide +kernel⟩
set_option maxRecDepth 100000 in
theorem mo_Camp_has : mOK m_Camp_has (439, 80, 438, 13, false) := ⟨rfl, by decide +kernel, by decide +kernel, by decide +kernel, by decide +kernel⟩
set_option maxRecDepth 100000 in
theorem mo_Camp_nameOf : mOK m_Camp_nameOf (444, 80, 443, 14, false) := ⟨rfl, by decide +kernel, by decide +kernel, by decide +kernel, by decide +kernel⟩
set_option maxRecDepth 100000 in
theorem mo_Camp_empty : mOK m_Camp_empty (395, 80, 394, 4, false) := ⟨rfl, by decide +kernel, by decide +kernel, by decide +kernel, by decide +kernel⟩
set_option maxRecDepth 100000 in
theorem mo_Camp_addHerder : mOK m_Camp_addHerder (403, 80, 402, 6, false) := ⟨rfl, by decide +kernel, by decide +kernel, by decide +kernel, by decide +kernel⟩
set_option maxRecDepth 100000 in
theorem mo_Camp_tieLastHerder : mOK m_Camp_tieLastHerder (407, 80, 406, 7, false) := ⟨rfl, by decide +kernel, by decide +kernel, by decide +kernel, by decide +kernel⟩
set_option maxRecDepth 100000 in
theorem mo_Camp_become : mOK m_Camp_become (504, 80, 503, 24, false) := ⟨rfl, by decide +kernel, by decide +kernel, by decide +kernel, by decide +kernel⟩
set_option maxRecDepth 100000 in
theorem mo_Camp_turns : mOK m_Camp_turns (485, 80, 484, 21, false) := ⟨rfl, by decide +kernel, by decide +kernel, by decide +kernel, by decide +kernel⟩
set_option maxRecDepth 100000 in
theorem mo_Camp_named : mOK m_Camp_named (463, 80, 462, 16, false) := ⟨rfl, by decide +kernel, by decide +kernel, by decide +kernel, by decide +kernel⟩
set_option maxRecDepth 100000 in
theorem mo_Camp_calledLike : mOK m_Camp_calledLike (471, 80, 470, 18, false) := ⟨rfl, by decide +kernel, by decide +kernel, by decide +kernel, by decide +kernel⟩
set_option maxRecDepth 100000 in
theorem mo_Camp_unlikeNames : mOK m_Camp_unlikeNames (467, 80, 466, 17, false) := ⟨rfl, by decide +kernel, by decide +kernel, by decide +kernel, by decide +kernel⟩
set_option maxRecDepth 100000 in
theorem mo_Lives_init : mOK m_Lives_init (182, 84, 181, 0, false) := ⟨rfl, by decide +kernel, by decide +kernel, by decide +kernel, by decide +kernel⟩
set_option maxRecDepth 100000 in
theorem mo_Lives_readBack : mOK m_Lives_readBack (687, 84, 686, 44, false) := ⟨rfl, by decide +kernel, by decide +kernel, by decide +kernel, by decide +kernel⟩
set_option maxRecDepth 100000 in
theorem mo_Lives_seek : mOK m_Lives_seek (692, 84, 691, 0, true) := ⟨rfl, by decide +kernel, by decide +kernel, by decide +kernel, by decide +kernel⟩
set_option maxRecDepth 100000 in
theorem mo_Lives_note : mOK m_Lives_note (699, 84, 698, 45, false) := ⟨rfl, by decide +kernel, by decide +kernel, by decide +kernel, by decide +kernel⟩
set_option maxRecDepth 100000 in
theorem mo_Lives_inMost : mOK m_Lives_inMost (711, 84, 710, 47, false) := ⟨rfl, by decide +kernel, by decide +kernel, by decide +kernel, by decide +kernel⟩
set_option maxRecDepth 100000 in
theorem mo_NewN_init : mOK m_NewN_init (216, 85, 215, 0, false) := ⟨rfl, by decide +kernel, by decide +kernel, by decide +kernel, by decide +kernel⟩
set_option maxRecDepth 100000 in
theorem mo_NewN_find : mOK m_NewN_find (644, 85, 643, 38, false) := ⟨rfl, by decide +kernel, by decide +kernel, by decide +kernel, by decide +kernel⟩
set_option maxRecDepth 100000 in
theorem mo_NewN_spell : mOK m_NewN_spell (649, 85, 648, 39, false) := ⟨rfl, by decide +kernel, by decide +kernel, by decide +kernel, by decide +kernel⟩
set_option maxRecDepth 100000 in
theorem mo_NewN_isFar : mOK m_NewN_isFar (660, 85, 659, 41, false) := ⟨rfl, by decide +kernel, by decide +kernel, by decide +kernel, by decide +kernel⟩
set_option maxRecDepth 100000 in
theorem mo_Past_init : mOK m_Past_init (162, 83, 161, 0, false) := ⟨rfl, by decide +kernel, by decide +kernel, by decide +kernel, by decide +kernel⟩
set_option maxRecDepth 100000 in
theorem mo_Past_remember : mOK m_Past_remember (500, 83, 499, 23, false) := ⟨rfl, by decide +kernel, by decide +kernel, by decide +kernel, by decide +kernel⟩
set_option maxRecDepth 100000 in
theorem mo_Past_takeBack : mOK m_Past_takeBack (559, 83, 558, 30, false) := ⟨rfl, by decide +kernel, by decide +kernel, by decide +kernel, by decide +kernel⟩
set_option maxRecDepth 100000 in
theorem mo_Past_forget : mOK m_Past_forget (430, 83, 429, 12, false) := ⟨rfl, by decide +kernel, by decide +kernel, by decide +kernel, by decide +kernel⟩
set_option maxRecDepth 100000 in
theorem mo_Row_init : mOK m_Row_init (127, 81, 126, 0, false) := ⟨rfl, by decide +kernel, by decide +kernel, by decide +kernel, by decide +kernel⟩
set_option maxRecDepth 100000 in
theorem mo_Row_at : mOK m_Row_at (451, 81, 450, 15, false) := ⟨rfl, by decide +kernel, by decide +kernel, by decide +kernel, by decide +kernel⟩
set_option maxRecDepth 100000 in
theorem mo_Row_last : mOK m_Row_last (518, 81, 517, 26, false) := ⟨rfl, by decide +kernel, by decide +kernel, by decide +kernel, by decide +kernel⟩
set_option maxRecDepth 100000 in
theorem mo_Row_empty : mOK m_Row_empty (399, 81, 398, 5, false) := ⟨rfl, by decide +kernel, by decide +kernel, by decide +kernel, by decide +kernel⟩
set_option maxRecDepth 100000 in
theorem mo_Row_append : mOK m_Row_append (426, 81, 425, 11, false) := ⟨rfl, by decide +kernel, by decide +kernel, by decide +kernel, by decide +kernel⟩
set_option maxRecDepth 100000 in
theorem mo_Row_dropLast : mOK m_Row_dropLast (422, 81, 421, 10, false) := ⟨rfl, by decide +kernel, by decide +kernel, by decide +kernel, by decide +kernel⟩
set_option maxRecDepth 100000 in
theorem mo_Row_endsUndoing : mOK m_Row_endsUndoing (415, 81, 414, 9, false) := ⟨rfl, by decide +kernel, by decide +kernel, by decide +kernel, by decide +kernel⟩
set_option maxRecDepth 100000 in
theorem mo_Row_takesTight : mOK m_Row_takesTight (496, 81, 495, 22, false) := ⟨rfl, by decide +kernel, by decide +kernel, by decide +kernel, by decide +kernel⟩
set_option maxRecDepth 100000 in
theorem mo_Row_appendTight : mOK m_Row_appendTight (411, 81, 410, 8, false) := ⟨rfl, by decide +kernel, by decide +kernel, by decide +kernel, by decide +kernel⟩
set_option maxRecDepth 100000 in
theorem mo_Row_appendAllTight : mOK m_Row_appendAllTight (535, 81, 534, 29, false) := ⟨rfl, by decide +kernel, by decide +kernel, by decide +kernel, by decide +kernel⟩
set_option maxRecDepth 100000 in
theorem mo_Row_appendAllUndoing : mOK m_Row_appendAllUndoing (703, 81, 702, 46, false) := ⟨rfl, by decide +kernel, by decide +kernel, by decide +kernel, by decide +kernel⟩
set_option maxRecDepth 100000 in
theorem mo_Row_become : mOK m_Row_become (508, 81, 507, 25, false) := ⟨rfl, by decide +kernel, by decide +kernel, by decide +kernel, by decide +kernel⟩
set_option maxRecDepth 100000 in
theorem mo_Row_becomeTight : mOK m_Row_becomeTight (531, 81, 530, 28, false) := ⟨rfl, by decide +kernel, by decide +kernel, by decide +kernel, by decide +kernel⟩
set_option maxRecDepth 100000 in
theorem mo_Row_becomeJoined : mOK m_Row_becomeJoined (527, 81, 526, 27, false) := ⟨rfl, by decide +kernel, by decide +kernel, by decide +kernel, by decide +kernel⟩
set_option maxRecDepth 100000 in
theorem mo_Row_isTight : mOK m_Row_isTight (656, 81, 655, 40, false) := ⟨rfl, by decide +kernel, by decide +kernel, by decide +kernel, by decide +kernel⟩
set_option maxRecDepth 100000 in
theorem mo_Row_commonStart : mOK m_Row_commonStart (479, 81, 478, 20, false) := ⟨rfl, by decide +kernel, by decide +kernel, by decide +kernel, by decide +kernel⟩
set_option maxRecDepth 100000 in
theorem mo_Row_isLike : mOK m_Row_isLike (475, 81, 474, 19, false) := ⟨rfl, by decide +kernel, by decide +kernel, by decide +kernel, by decide +kernel⟩
set_option maxRecDepth 100000 in
theorem mo_Row_compareWith : mOK m_Row_compareWith (605, 81, 604, 36, false) := ⟨rfl, by decide +kernel, by decide +kernel, by decide +kernel, by decide +kernel⟩
set_option maxRecDepth 100000 in
theorem mo_Row_differences : mOK m_Row_differences (636, 81, 635, 37, false) := ⟨rfl, by decide +kernel, by decide +kernel, by decide +kernel, by decide +kernel⟩
set_option maxRecDepth 100000 in
theorem mo_Row_shortestRepeated : mOK m_Row_shortestRepeated (593, 81, 592, 34, false) := ⟨rfl, by decide +kernel, by decide +kernel, by decide +kernel, by decide +kernel⟩
set_option maxRecDepth 100000 in
theorem mo_Row_repeats : mOK m_Row_repeats (597, 81, 596, 35, false) := ⟨rfl, by decide +kernel, by decide +kernel, by decide +kernel, by decide +kernel⟩
set_option maxRecDepth 100000 in
theorem mo_Row_lostByBending : mOK m_Row_lostByBending (576, 81, 575, 32, false) := ⟨rfl, by decide +kernel, by decide +kernel, by decide +kernel, by decide +kernel⟩
set_option maxRecDepth 100000 in
theorem mo_Row_isRingOf : mOK m_Row_isRingOf (572, 81, 571, 31, false) := ⟨rfl, by decide +kernel, by decide +kernel, by decide +kernel, by decide +kernel⟩
set_option maxRecDepth 100000 in
theorem mo_Row_isRingBegunAt : mOK m_Row_isRingBegunAt (580, 81, 579, 33, false) := ⟨rfl, by decide +kernel, by decide +kernel, by decide +kernel, by decide +kernel⟩
set_option maxRecDepth 100000 in
theorem mo_Text_init : mOK m_Text_init (105, 79, 104, 0, false) := ⟨rfl, by decide +kernel, by decide +kernel, by decide +kernel, by decide +kernel⟩
set_option maxRecDepth 100000 in
theorem mo_Text_append : mOK m_Text_append (283, 79, 282, 0, false) := ⟨rfl, by decide +kernel, by decide +kernel, by decide +kernel, by decide +kernel⟩
set_option maxRecDepth 100000 in
theorem mo_Text_empty : mOK m_Text_empty (291, 79, 290, 1, false) := ⟨rfl, by decide +kernel, by decide +kernel, by decide +kernel, by decide +kernel⟩
set_option maxRecDepth 100000 in
theorem mo_Text_isTurnLetter : mOK m_Text_isTurnLetter (302, 79, 301, 0, true) := ⟨rfl, by decide +kernel, by decide +kernel, by decide +kernel, by decide +kernel⟩
set_option maxRecDepth 100000 in
theorem mo_Text_fault : mOK m_Text_fault (299, 79, 298, 2, false) := ⟨rfl, by decide +kernel, by decide +kernel, by decide +kernel, by decide +kernel⟩
set_option maxRecDepth 100000 in
theorem mo_Text_tell : mOK m_Text_tell (391, 79, 390, 3, false) := ⟨rfl, by decide +kernel, by decide +kernel, by decide +kernel, by decide +kernel⟩
set_option maxRecDepth 100000 in
theorem mo_KN_init : mOK m_KN_init (97, 78, 96, 0, false) := ⟨rfl, by decide +kernel, by decide +kernel, by decide +kernel, by decide +kernel⟩
set_option maxRecDepth 100000 in
theorem mo_KN_type : mOK m_KN_type (276, 78, 274, 275, false) := ⟨rfl, by decide +kernel, by decide +kernel, by decide +kernel, by decide +kernel⟩
set_option maxRecDepth 100000 in
theorem mo_KN_clear : mOK m_KN_clear (287, 78, 285, 286, false) := ⟨rfl, by decide +kernel, by decide +kernel, by decide +kernel, by decide +kernel⟩
set_option maxRecDepth 100000 in
theorem mo_KN_camp : mOK m_KN_camp (295, 78, 293, 294, false) := ⟨rfl, by decide +kernel, by decide +kernel, by decide +kernel, by decide +kernel⟩
set_option maxRecDepth 100000 in
theorem mo_KN_name : mOK m_KN_name (435, 78, 433, 434, false) := ⟨rfl, by decide +kernel, by decide +kernel, by decide +kernel, by decide +kernel⟩
set_option maxRecDepth 100000 in
theorem mo_KN_contract : mOK m_KN_contract (455, 78, 453, 454, false) := ⟨rfl, by decide +kernel, by decide +kernel, by decide +kernel, by decide +kernel⟩
set_option maxRecDepth 100000 in
theorem mo_KN_now : mOK m_KN_now (459, 78, 457, 458, false) := ⟨rfl, by decide +kernel, by decide +kernel, by decide +kernel, by decide +kernel⟩
set_option maxRecDepth 100000 in
theorem mo_KN_ties : mOK m_KN_ties (489, 78, 487, 488, false) := ⟨rfl, by decide +kernel, by decide +kernel, by decide +kernel, by decide +kernel⟩
set_option maxRecDepth 100000 in
theorem mo_KN_loosens : mOK m_KN_loosens (514, 78, 512, 513, false) := ⟨rfl, by decide +kernel, by decide +kernel, by decide +kernel, by decide +kernel⟩
set_option maxRecDepth 100000 in
theorem mo_KN_bends : mOK m_KN_bends (523, 78, 521, 522, false) := ⟨rfl, by decide +kernel, by decide +kernel, by decide +kernel, by decide +kernel⟩
set_option maxRecDepth 100000 in
theorem mo_KN_unties : mOK m_KN_unties (541, 78, 539, 540, false) := ⟨rfl, by decide +kernel, by decide +kernel, by decide +kernel, by decide +kernel⟩
set_option maxRecDepth 100000 in
theorem mo_KN_adds : mOK m_KN_adds (546, 78, 544, 545, false) := ⟨rfl, by decide +kernel, by decide +kernel, by decide +kernel, by decide +kernel⟩
set_option maxRecDepth 100000 in
theorem mo_KN_tears : mOK m_KN_tears (551, 78, 549, 550, false) := ⟨rfl, by decide +kernel, by decide +kernel, by decide +kernel, by decide +kernel⟩
set_option maxRecDepth 100000 in
theorem mo_KN_undo : mOK m_KN_undo (555, 78, 553, 554, false) := ⟨rfl, by decide +kernel, by decide +kernel, by decide +kernel, by decide +kernel⟩
set_option maxRecDepth 100000 in
theorem mo_KN_alike : mOK m_KN_alike (563, 78, 561, 562, false) := ⟨rfl, by decide +kernel, by decide +kernel, by decide +kernel, by decide +kernel⟩
set_option maxRecDepth 100000 in
theorem mo_KN_ring : mOK m_KN_ring (568, 78, 566, 567, false) := ⟨rfl, by decide +kernel, by decide +kernel, by decide +kernel, by decide +kernel⟩
set_option maxRecDepth 100000 in
theorem mo_KN_way : mOK m_KN_way (584, 78, 582, 583, false) := ⟨rfl, by decide +kernel, by decide +kernel, by decide +kernel, by decide +kernel⟩
set_option maxRecDepth 100000 in
theorem mo_KN_root : mOK m_KN_root (589, 78, 587, 588, false) := ⟨rfl, by decide +kernel, by decide +kernel, by decide +kernel, by decide +kernel⟩
set_option maxRecDepth 100000 in
theorem mo_KN_order : mOK m_KN_order (601, 78, 599, 600, false) := ⟨rfl, by decide +kernel, by decide +kernel, by decide +kernel, by decide +kernel⟩
set_option maxRecDepth 100000 in
theorem mo_KN_cold : mOK m_KN_cold (612, 78, 610, 611, false) := ⟨rfl, by decide +kernel, by decide +kernel, by decide +kernel, by decide +kernel⟩
set_option maxRecDepth 100000 in
theorem mo_KN_mixed : mOK m_KN_mixed (632, 78, 630, 631, false) := ⟨rfl, by decide +kernel, by decide +kernel, by decide +kernel, by decide +kernel⟩
set_option maxRecDepth 100000 in
theorem mo_KN_newName : mOK m_KN_newName (640, 78, 638, 639, false) := ⟨rfl, by decide +kernel, by decide +kernel, by decide +kernel, by decide +kernel⟩
set_option maxRecDepth 100000 in
theorem mo_KN_pulls : mOK m_KN_pulls (667, 78, 665, 666, false) := ⟨rfl, by decide +kernel, by decide +kernel, by decide +kernel, by decide +kernel⟩
set_option maxRecDepth 100000 in
theorem mo_KN_lives : mOK m_KN_lives (683, 78, 681, 682, false) := ⟨rfl, by decide +kernel, by decide +kernel, by decide +kernel, by decide +kernel⟩
set_option maxRecDepth 100000 in
theorem mo_KN_next : mOK m_KN_next (707, 78, 705, 706, false) := ⟨rfl, by decide +kernel, by decide +kernel, by decide +kernel, by decide +kernel⟩
set_option maxRecDepth 100000 in
theorem mo_KN_porridge : mOK m_KN_porridge (715, 78, 713, 714, false) := ⟨rfl, by decide +kernel, by decide +kernel, by decide +kernel, by decide +kernel⟩
set_option maxRecDepth 100000 in
theorem mo_KN_share : mOK m_KN_share (728, 78, 726, 727, false) := ⟨rfl, by decide +kernel, by decide +kernel, by decide +kernel, by decide +kernel⟩
set_option maxRecDepth 100000 in
theorem mo_KN_rate : mOK m_KN_rate (732, 78, 730, 731, false) := ⟨rfl, by decide +kernel, by decide +kernel, by decide +kernel, by decide +kernel⟩
set_option maxRecDepth 100000 in
theorem mo_KN_keep : mOK m_KN_keep (766, 78, 764, 765, false) := ⟨rfl, by decide +kernel, by decide +kernel, by decide +kernel, by decide +kernel⟩
set_option maxRecDepth 100000 in
theorem mo_KN_back : mOK m_KN_back (771, 78, 769, 770, false) := ⟨rfl, by decide +kernel, by decide +kernel, by decide +kernel, by decide +kernel⟩
set_option maxRecDepth 100000 in
theorem mo_KN_count : mOK m_KN_count (775, 78, 773, 774, false) := ⟨rfl, by decide +kernel, by decide +kernel, by decide +kernel, by decide +kernel⟩
set_option maxRecDepth 100000 in
theorem mo_KN_trace : mOK m_KN_trace (779, 78, 777, 778, false) := ⟨rfl, by decide +kernel, by decide +kernel, by decide +kernel, by decide +kernel⟩
set_option maxRecDepth 100000 in
theorem mo_KN_asHerder : mOK m_KN_asHerder (737, 78, 736, 48, false) := ⟨rfl, by decide +kernel, by decide +kernel, by decide +kernel, by decide +kernel⟩
set_option maxRecDepth 100000 in
theorem mo_KN_asChief : mOK m_KN_asChief (741, 78, 740, 49, false) := ⟨rfl, by decide +kernel, by decide +kernel, by decide +kernel, by decide +kernel⟩
set_option maxRecDepth 100000 in
theorem mo_KN_asLiar : mOK m_KN_asLiar (746, 78, 745, 50, false) := ⟨rfl, by decide +kernel, by decide +kernel, by decide +kernel, by decide +kernel⟩
set_option maxRecDepth 100000 in
theorem mo_KN_asFist : mOK m_KN_asFist (751, 78, 750, 51, false) := ⟨rfl, by decide +kernel, by decide +kernel, by decide +kernel, by decide +kernel⟩
set_option maxRecDepth 100000 in
theorem mo_KN_asThief : mOK m_KN_asThief (756, 78, 755, 52, false) := ⟨rfl, by decide +kernel, by decide +kernel, by decide +kernel, by decide +kernel⟩
set_option maxRecDepth 100000 in
theorem mo_KN_asWidow : mOK m_KN_asWidow (761, 78, 760, 53, false) := ⟨rfl, by decide +kernel, by decide +kernel, by decide +kernel, by decide +kernel⟩
set_option maxRecDepth 100000 in
theorem mo_KN_isWithin : mOK m_KN_isWithin (279, 78, 278, 0, true) := ⟨rfl, by decide +kernel, by decide +kernel, by decide +kernel, by decide +kernel⟩
set_option maxRecDepth 100000 in
theorem mo_KN_isTurn : mOK m_KN_isTurn (492, 78, 491, 0, true) := ⟨rfl, by decide +kernel, by decide +kernel, by decide +kernel, by decide +kernel⟩
set_option maxRecDepth 100000 in
theorem mo_KN_undoing : mOK m_KN_undoing (418, 78, 417, 0, true) := ⟨rfl, by decide +kernel, by decide +kernel, by decide +kernel, by decide +kernel⟩
set_option maxRecDepth 100000 in
theorem mo_KN_lengthOrTurn : mOK m_KN_lengthOrTurn (447, 78, 446, 0, true) := ⟨rfl, by decide +kernel, by decide +kernel, by decide +kernel, by decide +kernel⟩
set_option maxRecDepth 100000 in
theorem mo_KN_takenFor : mOK m_KN_takenFor (625, 78, 624, 0, true) := ⟨rfl, by decide +kernel, by decide +kernel, by decide +kernel, by decide +kernel⟩
set_option maxRecDepth 100000 in
theorem mo_KN_power : mOK m_KN_power (628, 78, 627, 0, true) := ⟨rfl, by decide +kernel, by decide +kernel, by decide +kernel, by decide +kernel⟩
set_option maxRecDepth 100000 in
theorem mo_KN_leastTerms : mOK m_KN_leastTerms (616, 78, 615, 0, true) := ⟨rfl, by decide +kernel, by decide +kernel, by decide +kernel, by decide +kernel⟩
set_option maxRecDepth 100000 in
theorem mo_KN_commonDivisor : mOK m_KN_commonDivisor (619, 78, 618, 0, true) := ⟨rfl, by decide +kernel, by decide +kernel, by decide +kernel, by decide +kernel⟩
set_option maxRecDepth 100000 in
theorem mo_KN_mostPairs : mOK m_KN_mostPairs (672, 78, 671, 42, false) := ⟨rfl, by decide +kernel, by decide +kernel, by decide +kernel, by decide +kernel⟩
set_option maxRecDepth 100000 in
theorem mo_KN_mostPairsWithin : mOK m_KN_mostPairsWithin (677, 78, 676, 43, false) := ⟨rfl, by decide +kernel, by decide +kernel, by decide +kernel, by decide +kernel⟩
set_option maxRecDepth 100000 in
theorem mo_MD_init : mOK m_MD_init (784, 86, 783, 0, false) := ⟨rfl, by decide +kernel, by decide +kernel, by decide +kernel, by decide +kernel⟩
set_option maxRecDepth 100000 in
theorem mo_MD_in : mOK m_MD_in (854, 86, 853, 0, true) := ⟨rfl, by decide +kernel, by decide +kernel, by decide +kernel, by decide +kernel⟩
set_option maxRecDepth 100000 in
theorem mo_MD_isTwo : mOK m_MD_isTwo (1014, 86, 1013, 0, true) := ⟨rfl, by decide +kernel, by decide +kernel, by decide +kernel, by decide +kernel⟩
set_option maxRecDepth 100000 in
theorem mo_MD_isTurn : mOK m_MD_isTurn (929, 86, 928, 0, true) := ⟨rfl, by decide +kernel, by decide +kernel, by decide +kernel, by decide +kernel⟩
set_option maxRecDepth 100000 in
theorem mo_MD_bits : mOK m_MD_bits (1059, 86, 1058, 0, true) := ⟨rfl, by decide +kernel, by decide +kernel, by decide +kernel, by decide +kernel⟩
set_option maxRecDepth 100000 in
theorem mo_MD_tie : mOK m_MD_tie (877, 86, 876, 56, false) := ⟨rfl, by decide +kernel, by decide +kernel, by decide +kernel, by decide +kernel⟩
set_option maxRecDepth 100000 in
theorem mo_MD_tieRow : mOK m_MD_tieRow (938, 86, 937, 65, false) := ⟨rfl, by decide +kernel, by decide +kernel, by decide +kernel, by decide +kernel⟩
set_option maxRecDepth 100000 in
theorem mo_MD_tieName : mOK m_MD_tieName (934, 86, 933, 64, false) := ⟨rfl, by decide +kernel, by decide +kernel, by decide +kernel, by decide +kernel⟩
set_option maxRecDepth 100000 in
theorem mo_MD_type : mOK m_MD_type (850, 86, 848, 849, false) := ⟨rfl, by decide +kernel, by decide +kernel, by decide +kernel, by decide +kernel⟩
set_option maxRecDepth 100000 in
theorem mo_MD_clear : mOK m_MD_clear (858, 86, 856, 857, false) := ⟨rfl, by decide +kernel, by decide +kernel, by decide +kernel, by decide +kernel⟩
set_option maxRecDepth 100000 in
theorem mo_MD_turnOf : mOK m_MD_turnOf (873, 86, 872, 0, true) := ⟨rfl, by decide +kernel, by decide +kernel, by decide +kernel, by decide +kernel⟩
set_option maxRecDepth 100000 in
theorem mo_MD_ahead : mOK m_MD_ahead (866, 86, 865, 54, false) := ⟨rfl, by decide +kernel, by decide +kernel, by decide +kernel, by decide +kernel⟩
set_option maxRecDepth 100000 in
theorem mo_MD_takesHerder : mOK m_MD_takesHerder (870, 86, 869, 55, false) := ⟨rfl, by decide +kernel, by decide +kernel, by decide +kernel, by decide +kernel⟩
set_option maxRecDepth 100000 in
theorem mo_MD_camp : mOK m_MD_camp (862, 86, 860, 861, false) := ⟨rfl, by decide +kernel, by decide +kernel, by decide +kernel, by decide +kernel⟩
set_option maxRecDepth 100000 in
theorem mo_MD_copies : mOK m_MD_copies (880, 86, 879, 0, true) := ⟨rfl, by decide +kernel, by decide +kernel, by decide +kernel, by decide +kernel⟩
set_option maxRecDepth 100000 in
theorem mo_MD_isHerder : mOK m_MD_isHerder (888, 86, 887, 57, false) := ⟨rfl, by decide +kernel, by decide +kernel, by decide +kernel, by decide +kernel⟩
set_option maxRecDepth 100000 in
theorem mo_MD_name : mOK m_MD_name (884, 86, 882, 883, false) := ⟨rfl, by decide +kernel, by decide +kernel, by decide +kernel, by decide +kernel⟩
set_option maxRecDepth 100000 in
theorem mo_MD_contract : mOK m_MD_contract (893, 86, 891, 892, false) := ⟨rfl, by decide +kernel, by decide +kernel, by decide +kernel, by decide +kernel⟩
set_option maxRecDepth 100000 in
theorem mo_MD_turnsOfAll : mOK m_MD_turnsOfAll (922, 86, 921, 63, false) := ⟨rfl, by decide +kernel, by decide +kernel, by decide +kernel, by decide +kernel⟩
set_option maxRecDepth 100000 in
theorem mo_MD_namesThere : mOK m_MD_namesThere (901, 86, 900, 58, false) := ⟨rfl, by decide +kernel, by decide +kernel, by decide +kernel, by decide +kernel⟩
set_option maxRecDepth 100000 in
theorem mo_MD_now : mOK m_MD_now (897, 86, 895, 896, false) := ⟨rfl, by decide +kernel, by decide +kernel, by decide +kernel, by decide +kernel⟩
set_option maxRecDepth 100000 in
theorem mo_MD_remember : mOK m_MD_remember (942, 86, 941, 66, false) := ⟨rfl, by decide +kernel, by decide +kernel, by decide +kernel, by decide +kernel⟩
set_option maxRecDepth 100000 in
theorem mo_MD_names : mOK m_MD_names (946, 86, 945, 67, false) := ⟨rfl, by decide +kernel, by decide +kernel, by decide +kernel, by decide +kernel⟩
set_option maxRecDepth 100000 in
theorem mo_MD_ties : mOK m_MD_ties (926, 86, 924, 925, false) := ⟨rfl, by decide +kernel, by decide +kernel, by decide +kernel, by decide +kernel⟩
set_option maxRecDepth 100000 in
theorem mo_MD_loosens : mOK m_MD_loosens (950, 86, 948, 949, false) := ⟨rfl, by decide +kernel, by decide +kernel, by decide +kernel, by decide +kernel⟩
set_option maxRecDepth 100000 in
theorem mo_MD_bends : mOK m_MD_bends (954, 86, 952, 953, false) := ⟨rfl, by decide +kernel, by decide +kernel, by decide +kernel, by decide +kernel⟩
set_option maxRecDepth 100000 in
theorem mo_MD_unties : mOK m_MD_unties (958, 86, 956, 957, false) := ⟨rfl, by decide +kernel, by decide +kernel, by decide +kernel, by decide +kernel⟩
set_option maxRecDepth 100000 in
theorem mo_MD_adds : mOK m_MD_adds (962, 86, 960, 961, false) := ⟨rfl, by decide +kernel, by decide +kernel, by decide +kernel, by decide +kernel⟩
set_option maxRecDepth 100000 in
theorem mo_MD_tears : mOK m_MD_tears (966, 86, 964, 965, false) := ⟨rfl, by decide +kernel, by decide +kernel, by decide +kernel, by decide +kernel⟩
set_option maxRecDepth 100000 in
theorem mo_MD_undo : mOK m_MD_undo (970, 86, 968, 969, false) := ⟨rfl, by decide +kernel, by decide +kernel, by decide +kernel, by decide +kernel⟩
set_option maxRecDepth 100000 in
theorem mo_MD_turnAt : mOK m_MD_turnAt (918, 86, 917, 62, false) := ⟨rfl, by decide +kernel, by decide +kernel, by decide +kernel, by decide +kernel⟩
set_option maxRecDepth 100000 in
theorem mo_MD_unlike : mOK m_MD_unlike (913, 86, 912, 61, false) := ⟨rfl, by decide +kernel, by decide +kernel, by decide +kernel, by decide +kernel⟩
set_option maxRecDepth 100000 in
theorem mo_MD_nearTo : mOK m_MD_nearTo (909, 86, 908, 60, false) := ⟨rfl, by decide +kernel, by decide +kernel, by decide +kernel, by decide +kernel⟩
set_option maxRecDepth 100000 in
theorem mo_MD_alikeOf : mOK m_MD_alikeOf (905, 86, 904, 59, false) := ⟨rfl, by decide +kernel, by decide +kernel, by decide +kernel, by decide +kernel⟩
set_option maxRecDepth 100000 in
theorem mo_MD_alike : mOK m_MD_alike (974, 86, 972, 973, false) := ⟨rfl, by decide +kernel, by decide +kernel, by decide +kernel, by decide +kernel⟩
set_option maxRecDepth 100000 in
theorem mo_MD_ends : mOK m_MD_ends (986, 86, 985, 69, false) := ⟨rfl, by decide +kernel, by decide +kernel, by decide +kernel, by decide +kernel⟩
set_option maxRecDepth 100000 in
theorem mo_MD_isRing : mOK m_MD_isRing (982, 86, 981, 68, false) := ⟨rfl, by decide +kernel, by decide +kernel, by decide +kernel, by decide +kernel⟩
set_option maxRecDepth 100000 in
theorem mo_MD_ring : mOK m_MD_ring (978, 86, 976, 977, false) := ⟨rfl, by decide +kernel, by decide +kernel, by decide +kernel, by decide +kernel⟩
set_option maxRecDepth 100000 in
theorem mo_MD_way : mOK m_MD_way (990, 86, 988, 989, false) := ⟨rfl, by decide +kernel, by decide +kernel, by decide +kernel, by decide +kernel⟩
set_option maxRecDepth 100000 in
theorem mo_MD_rootOf : mOK m_MD_rootOf (998, 86, 997, 70, false) := ⟨rfl, by decide +kernel, by decide +kernel, by decide +kernel, by decide +kernel⟩
set_option maxRecDepth 100000 in
theorem mo_MD_root : mOK m_MD_root (994, 86, 992, 993, false) := ⟨rfl, by decide +kernel, by decide +kernel, by decide +kernel, by decide +kernel⟩
set_option maxRecDepth 100000 in
theorem mo_MD_isAhead : mOK m_MD_isAhead (1006, 86, 1005, 71, false) := ⟨rfl, by decide +kernel, by decide +kernel, by decide +kernel, by decide +kernel⟩
set_option maxRecDepth 100000 in
theorem mo_MD_order : mOK m_MD_order (1002, 86, 1000, 1001, false) := ⟨rfl, by decide +kernel, by decide +kernel, by decide +kernel, by decide +kernel⟩
set_option maxRecDepth 100000 in
theorem mo_MD_least : mOK m_MD_least (1017, 86, 1016, 0, true) := ⟨rfl, by decide +kernel, by decide +kernel, by decide +kernel, by decide +kernel⟩
set_option maxRecDepth 100000 in
theorem mo_MD_cold : mOK m_MD_cold (1010, 86, 1008, 1009, false) := ⟨rfl, by decide +kernel, by decide +kernel, by decide +kernel, by decide +kernel⟩
set_option maxRecDepth 100000 in
theorem mo_MD_mixed : mOK m_MD_mixed (1021, 86, 1019, 1020, false) := ⟨rfl, by decide +kernel, by decide +kernel, by decide +kernel, by decide +kernel⟩
set_option maxRecDepth 100000 in
theorem mo_MD_isNew : mOK m_MD_isNew (1031, 86, 1030, 72, false) := ⟨rfl, by decide +kernel, by decide +kernel, by decide +kernel, by decide +kernel⟩
set_option maxRecDepth 100000 in
theorem mo_MD_newName : mOK m_MD_newName (1026, 86, 1024, 1025, false) := ⟨rfl, by decide +kernel, by decide +kernel, by decide +kernel, by decide +kernel⟩
set_option maxRecDepth 100000 in
theorem mo_MD_mend : mOK m_MD_mend (1044, 86, 1043, 74, false) := ⟨rfl, by decide +kernel, by decide +kernel, by decide +kernel, by decide +kernel⟩
set_option maxRecDepth 100000 in
theorem mo_MD_tieContract : mOK m_MD_tieContract (1040, 86, 1039, 73, false) := ⟨rfl, by decide +kernel, by decide +kernel, by decide +kernel, by decide +kernel⟩
set_option maxRecDepth 100000 in
theorem mo_MD_pulls : mOK m_MD_pulls (1035, 86, 1033, 1034, false) := ⟨rfl, by decide +kernel, by decide +kernel, by decide +kernel, by decide +kernel⟩
set_option maxRecDepth 100000 in
theorem mo_MD_isLife : mOK m_MD_isLife (1056, 86, 1055, 76, false) := ⟨rfl, by decide +kernel, by decide +kernel, by decide +kernel, by decide +kernel⟩
set_option maxRecDepth 100000 in
theorem mo_MD_layContract : mOK m_MD_layContract (1052, 86, 1051, 75, false) := ⟨rfl, by decide +kernel, by decide +kernel, by decide +kernel, by decide +kernel⟩
set_option maxRecDepth 100000 in
theorem mo_MD_lives : mOK m_MD_lives (1048, 86, 1046, 1047, false) := ⟨rfl, by decide +kernel, by decide +kernel, by decide +kernel, by decide +kernel⟩
set_option maxRecDepth 100000 in
theorem mo_MD_next : mOK m_MD_next (1063, 86, 1061, 1062, false) := ⟨rfl, by decide +kernel, by decide +kernel, by decide +kernel, by decide +kernel⟩
set_option maxRecDepth 100000 in
theorem mo_MD_porridge : mOK m_MD_porridge (1067, 86, 1065, 1066, false) := ⟨rfl, by decide +kernel, by decide +kernel, by decide +kernel, by decide +kernel⟩
set_option maxRecDepth 100000 in
theorem mo_MD_share : mOK m_MD_share (1072, 86, 1070, 1071, false) := ⟨rfl, by decide +kernel, by decide +kernel, by decide +kernel, by decide +kernel⟩
set_option maxRecDepth 100000 in
theorem mo_MD_rate : mOK m_MD_rate (1077, 86, 1075, 1076, false) := ⟨rfl, by decide +kernel, by decide +kernel, by decide +kernel, by decide +kernel⟩
set_option maxRecDepth 100000 in
theorem mo_MD_keep : mOK m_MD_keep (1086, 86, 1084, 1085, false) := ⟨rfl, by decide +kernel, by decide +kernel, by decide +kernel, by decide +kernel⟩
set_option maxRecDepth 100000 in
theorem mo_MD_back : mOK m_MD_back (1090, 86, 1088, 1089, false) := ⟨rfl, by decide +kernel, by decide +kernel, by decide +kernel, by decide +kernel⟩
set_option maxRecDepth 100000 in
theorem mo_MD_count : mOK m_MD_count (1094, 86, 1092, 1093, false) := ⟨rfl, by decide +kernel, by decide +kernel, by decide +kernel, by decide +kernel⟩
set_option maxRecDepth 100000 in
theorem mo_MD_trace : mOK m_MD_trace (1098, 86, 1096, 1097, false) := ⟨rfl, by decide +kernel, by decide +kernel, by decide +kernel, by decide +kernel⟩
set_option maxRecDepth 100000 in
theorem mo_JInt_compare : mOK m_JInt_compare (608, 92, 607, 0, true) := ⟨rfl, by decide +kernel, by decide +kernel, by decide +kernel, by decide +kernel⟩
set_option maxRecDepth 100000 in
theorem mo_JInt_bitCount : mOK m_JInt_bitCount (718, 92, 717, 0, true) := ⟨rfl, by decide +kernel, by decide +kernel, by decide +kernel, by decide +kernel⟩
set_option maxRecDepth 100000 in
theorem mo_JStr_length : mOK m_JStr_length (321, 87, 319, 320, false) := ⟨rfl, by decide +kernel, by decide +kernel, by decide +kernel, by decide +kernel⟩
set_option maxRecDepth 100000 in
theorem mo_JStr_indexOf : mOK m_JStr_indexOf (307, 87, 305, 306, false) := ⟨rfl, by decide +kernel, by decide +kernel, by decide +kernel, by decide +kernel⟩
set_option maxRecDepth 100000 in
theorem mo_JStr_indexOf2 : mOK m_JStr_indexOf2 (311, 87, 309, 310, false) := ⟨rfl, by decide +kernel, by decide +kernel, by decide +kernel, by decide +kernel⟩
set_option maxRecDepth 100000 in
theorem mo_JStr_coder : mOK m_JStr_coder (325, 87, 323, 324, false) := ⟨rfl, by decide +kernel, by decide +kernel, by decide +kernel, by decide +kernel⟩
set_option maxRecDepth 100000 in
theorem mo_JStr_isLatin1 : mOK m_JStr_isLatin1 (315, 87, 313, 314, false) := ⟨rfl, by decide +kernel, by decide +kernel, by decide +kernel, by decide +kernel⟩
set_option maxRecDepth 100000 in
theorem mo_JLat_canEncode : mOK m_JLat_canEncode (331, 88, 330, 0, true) := ⟨rfl, by decide +kernel, by decide +kernel, by decide +kernel, by decide +kernel⟩
set_option maxRecDepth 100000 in
theorem mo_JLat_indexOf : mOK m_JLat_indexOf (328, 88, 327, 0, true) := ⟨rfl, by decide +kernel, by decide +kernel, by decide +kernel, by decide +kernel⟩
set_option maxRecDepth 100000 in
theorem mo_JLat_indexOfChar : mOK m_JLat_indexOfChar (338, 88, 337, 0, true) := ⟨rfl, by decide +kernel, by decide +kernel, by decide +kernel, by decide +kernel⟩
def cOK (o : Nat) (q : Nat × Nat × Nat × Nat × Nat × Nat) : Prop := (q.2.1 = 3 ∧ lw_tbl[q.2.2.2.2.2]? = some (.methodLink (nm o) q.1 Lib.objectInit)) ∨ (q.2.1 = 4 ∧ lw_tbl[q.2.2.2.2.2]? = some (.methodLink (nm o) q.1 Lib.Math.max.name)) ∨ (q.2.1 = 5 ∧ lw_tbl[q.2.2.2.2.2]? = some (.methodLink (nm o) q.1 Lib.Math.min.name)) ∨ (q.2.1 = 6 ∧ lw_tbl[q.2.2.2.2.2]? = some (.methodLink (nm o) q.1 Lib.Math.abs.name)) ∨ (q.2.1 = 7 ∧ lw_tbl[q.2.2.2.2.2]? = some (.methodLink (nm o) q.1 Lib.MathLoose.max_long.x)) ∨
  (q.2.1 < 3 ∧ (q.2.2.1 < 174 ∧ (mt.getD q.2.2.1 m_LAW_law).2.1.name ≠ "law") ∧ (parseMethodDescriptor (mt.getD q.2.2.1 m_LAW_law).2.1.desc).map (fun d => d.parameters.length) = some q.2.2.2.1 ∧ (q.2.1 = 2 ↔ (mt.getD q.2.2.1 m_LAW_law).2.1.name = "<init>") ∧ ((q.2.1 = 1 ↔ isSt (mt.getD q.2.2.1 m_LAW_law).2.1 = true) ∧ (q.2.1 = 0 → ((mt.getD q.2.2.1 m_LAW_law).1 < 8 ∨ (mt.getD q.2.2.1 m_LAW_law).1 = 11)) ∧ (q.2.1 = 2 → (mt.getD q.2.2.1 m_LAW_law).2.2.2.2.1 = none)) ∧ ((q.2.2.2.2.1 = 0 ∧ lw_tbl[q.2.2.2.2.2]? = some (.methodLink (nm o) q.1 (mt.getD q.2.2.1 m_LAW_law).2.1)) ∨ (q.2.2.2.2.1 = 1 ∧ lw_tbl[q.2.2.2.2.2]? = some (.methodLinkNest (nm o) q.1 (mt.getD q.2.2.1 m_LAW_law).2.1 "KnotNames"))))
set_option maxRecDepth 100000 in
theorem cOK_0 : ∀ q ∈ cR_0, cOK 0 q := by
  unfold cOK
  decide +kernel
set_option maxRecDepth 100000 in
theorem cOK_1 : ∀ q ∈ cR_1, cOK 1 q := by
  unfold cOK
  decide +kernel
set_option maxRecDepth 100000 in
theorem cOK_2 : ∀ q ∈ cR_2, cOK 2 q := by
  unfold cOK
  decide +kernel
set_option maxRecDepth 100000 in
theorem cOK_3 : ∀ q ∈ cR_3, cOK 3 q := by
  unfold cOK
  decide +kernel
set_option maxRecDepth 100000 in
theorem cOK_4 : ∀ q ∈ cR_4, cOK 4 q := by
  unfold cOK
  decide +kernel
set_option maxRecDepth 100000 in
theorem cOK_5 : ∀ q ∈ cR_5, cOK 5 q := by
  unfold cOK
  decide +kernel
set_option maxRecDepth 100000 in
theorem cOK_6 : ∀ q ∈ cR_6, cOK 6 q := by
  unfold cOK
  decide +kernel
set_option maxRecDepth 100000 in
theorem cOK_7 : ∀ q ∈ cR_7, cOK 7 q := by
  unfold cOK
  decide +kernel
set_option maxRecDepth 100000 in
theorem cOK_8 : ∀ q ∈ cR_8, cOK 8 q := by
  unfold cOK
  decide +kernel
set_option maxRecDepth 100000 in
theorem cOK_9 : ∀ q ∈ cR_9, cOK 9 q := by
  unfold cOK
  decide +kernel
set_option maxRecDepth 100000 in
theorem cOK_10 : ∀ q ∈ cR_10, cOK 10 q := by
  unfold cOK
  decide +kernel
set_option maxRecDepth 100000 in
theorem cOK_11 : ∀ q ∈ cR_11, cOK 11 q := by
  unfold cOK
  decide +kernel
set_option maxRecDepth 100000 in
theorem cOK_12 : ∀ q ∈ cR_12, cOK 12 q := by
  unfold cOK
  decide +kernel
set_option maxRecDepth 100000 in
theorem cOK_13 : ∀ q ∈ cR_13, cOK 13 q := by
  unfold cOK
  decide +kernel
theorem cR_ok {o : Nat} {q : Nat × Nat × Nat × Nat × Nat × Nat} (h : q ∈ cRs.getD o []) : cOK o q := by
  by_cases ho : o < 14
  · rcases (show o = 0 ∨ o = 1 ∨ o = 2 ∨ o = 3 ∨ o = 4 ∨ o = 5 ∨ o = 6 ∨ o = 7 ∨ o = 8 ∨ o = 9 ∨ o = 10 ∨ o = 11 ∨ o = 12 ∨ o = 13 by omega) with rfl | rfl | rfl | rfl | rfl | rfl | rfl | rfl | rfl | rfl | rfl | rfl | rfl | rfl
    · exact cOK_0 q h
    · exact cOK_1 q h
    · exact cOK_2 q h
    · exact cOK_3 q h
    · exact cOK_4 q h
    · exact cOK_5 q h
    · exact cOK_6 q h
    · exact cOK_7 q h
    · exact cOK_8 q h
    · exact cOK_9 q h
    · exact cOK_10 q h
    · exact cOK_11 q h
    · exact cOK_12 q h
    · exact cOK_13 q h
  · have : cRs.getD o [] = [] := by
      rw [List.getD_eq_getElem?_getD, List.getElem?_eq_none (by show cRs.length ≤ o; exact Nat.le_trans (by decide) (Nat.not_lt.mp ho))]
      rfl
    rw [this] at h
    cases h
set_option maxRecDepth 100000 in
theorem objW : lw_tbl[99]? = some (.instanceMethod Lib.objectInit) ∧ lw_tbl[100]? = some (.code Lib.objectInit ⟨#[0xb1]⟩ 1 none) := by decide +kernel
set_option maxRecDepth 100000 in
theorem mathI : lw_tbl[82]? = some (.initialized "java/lang/Math") := by decide +kernel
set_option maxRecDepth 100000 in
theorem mathW4 : lw_tbl[130]? = some (.static Lib.Math.max.name) ∧ lw_tbl[131]? = some (.code Lib.Math.max.name Lib.Math.max.code 2 (some .int)) := by decide +kernel
set_option maxRecDepth 100000 in
theorem mathW5 : lw_tbl[334]? = some (.static Lib.Math.min.name) ∧ lw_tbl[335]? = some (.code Lib.Math.min.name Lib.Math.min.code 2 (some .int)) := by decide +kernel
set_option maxRecDepth 100000 in
theorem mathW6 : lw_tbl[723]? = some (.static Lib.Math.abs.name) ∧ lw_tbl[724]? = some (.code Lib.Math.abs.name Lib.Math.abs.code 1 (some .int)) := by decide +kernel
set_option maxRecDepth 100000 in
theorem mathW7 : lw_tbl[621]? = some (.static Lib.MathLoose.max_long.x) ∧ lw_tbl[622]? = some (.code Lib.MathLoose.max_long.x Lib.MathLoose.max_long.code 4 (some .long)) := by decide +kernel
def lOK (q : Nat × Instr × Nat) : Bool := match lenI q.2.1 with
  | some k => k == q.2.2
  | none => true
def kOK (m : MT) : Prop := (∀ q ∈ m.2.2.2.2.2.2.1, decode m.2.2.1 q.1 = .ok (q.2.1, q.2.2)) ∧ ∀ q ∈ m.2.2.2.2.2.2.1, lOK q = true
set_option maxRecDepth 100000 in
theorem kk_Camp_init : kOK m_Camp_init := ⟨kc_Camp_init, by decide +kernel⟩
set_option maxRecDepth 100000 in
theorem kk_Camp_has : kOK m_Camp_has := ⟨kc_Camp_has, by decide +kernel⟩
set_option maxRecDepth 100000 in
theorem kk_Camp_nameOf : kOK m_Camp_nameOf := ⟨kc_Camp_nameOf, by decide +kernel⟩
set_option maxRecDepth 100000 in
theorem kk_Camp_empty : kOK m_Camp_empty := ⟨kc_Camp_empty, by decide +kernel⟩
set_option maxRecDepth 100000 in
theorem kk_Camp_addHerder : kOK m_Camp_addHerder := ⟨kc_Camp_addHerder, by decide +kernel⟩
set_option maxRecDepth 100000 in
theorem kk_Camp_tieLastHerder : kOK m_Camp_tieLastHerder := ⟨kc_Camp_tieLastHerder, by decide +kernel⟩
set_option maxRecDepth 100000 in
theorem kk_Camp_become : kOK m_Camp_become := ⟨kc_Camp_become, by decide +kernel⟩
set_option maxRecDepth 100000 in
theorem kk_Camp_turns : kOK m_Camp_turns := ⟨kc_Camp_turns, by decide +kernel⟩
set_option maxRecDepth 100000 in
theorem kk_Camp_named : kOK m_Camp_named := ⟨kc_Camp_named, by decide +kernel⟩
set_option maxRecDepth 100000 in
theorem kk_Camp_calledLike : kOK m_Camp_calledLike := ⟨kc_Camp_calledLike, by decide +kernel⟩
set_option maxRecDepth 100000 in
theorem kk_Camp_unlikeNames : kOK m_Camp_unlikeNames := ⟨kc_Camp_unlikeNames, by decide +kernel⟩
set_option maxRecDepth 100000 in
theorem kk_Lives_init : kOK m_Lives_init := ⟨kc_Lives_init, by decide +kernel⟩
set_option maxRecDepth 100000 in
theorem kk_Lives_readBack : kOK m_Lives_readBack := ⟨kc_Lives_readBack, by decide +kernel⟩
set_option maxRecDepth 100000 in
theorem kk_Lives_seek : kOK m_Lives_seek := ⟨kc_Lives_seek, by decide +kernel⟩
set_option maxRecDepth 100000 in
theorem kk_Lives_note : kOK m_Lives_note := ⟨kc_Lives_note, by decide +kernel⟩
set_option maxRecDepth 100000 in
theorem kk_Lives_inMost : kOK m_Lives_inMost := ⟨kc_Lives_inMost, by decide +kernel⟩
set_option maxRecDepth 100000 in
theorem kk_NewN_init : kOK m_NewN_init := ⟨kc_NewN_init, by decide +kernel⟩
set_option maxRecDepth 100000 in
theorem kk_NewN_find : kOK m_NewN_find := ⟨kc_NewN_find, by decide +kernel⟩
set_option maxRecDepth 100000 in
theorem kk_NewN_spell : kOK m_NewN_spell := ⟨kc_NewN_spell, by decide +kernel⟩
set_option maxRecDepth 100000 in
theorem kk_NewN_isFar : kOK m_NewN_isFar := ⟨kc_NewN_isFar, by decide +kernel⟩
set_option maxRecDepth 100000 in
theorem kk_Past_init : kOK m_Past_init := ⟨kc_Past_init, by decide +kernel⟩
set_option maxRecDepth 100000 in
theorem kk_Past_remember : kOK m_Past_remember := ⟨kc_Past_remember, by decide +kernel⟩
set_option maxRecDepth 100000 in
theorem kk_Past_takeBack : kOK m_Past_takeBack := ⟨kc_Past_takeBack, by decide +kernel⟩
set_option maxRecDepth 100000 in
theorem kk_Past_forget : kOK m_Past_forget := ⟨kc_Past_forget, by decide +kernel⟩
set_option maxRecDepth 100000 in
theorem kk_Row_init : kOK m_Row_init := ⟨kc_Row_init, by decide +kernel⟩
set_option maxRecDepth 100000 in
theorem kk_Row_at : kOK m_Row_at := ⟨kc_Row_at, by decide +kernel⟩
set_option maxRecDepth 100000 in
theorem kk_Row_last : kOK m_Row_last := ⟨kc_Row_last, by decide +kernel⟩
set_option maxRecDepth 100000 in
theorem kk_Row_empty : kOK m_Row_empty := ⟨kc_Row_empty, by decide +kernel⟩
set_option maxRecDepth 100000 in
theorem kk_Row_append : kOK m_Row_append := ⟨kc_Row_append, by decide +kernel⟩
set_option maxRecDepth 100000 in
theorem kk_Row_dropLast : kOK m_Row_dropLast := ⟨kc_Row_dropLast, by decide +kernel⟩
set_option maxRecDepth 100000 in
theorem kk_Row_endsUndoing : kOK m_Row_endsUndoing := ⟨kc_Row_endsUndoing, by decide +kernel⟩
set_option maxRecDepth 100000 in
theorem kk_Row_takesTight : kOK m_Row_takesTight := ⟨kc_Row_takesTight, by decide +kernel⟩
set_option maxRecDepth 100000 in
theorem kk_Row_appendTight : kOK m_Row_appendTight := ⟨kc_Row_appendTight, by decide +kernel⟩
set_option maxRecDepth 100000 in
theorem kk_Row_appendAllTight : kOK m_Row_appendAllTight := ⟨kc_Row_appendAllTight, by decide +kernel⟩
set_option maxRecDepth 100000 in
theorem kk_Row_appendAllUndoing : kOK m_Row_appendAllUndoing := ⟨kc_Row_appendAllUndoing, by decide +kernel⟩
set_option maxRecDepth 100000 in
theorem kk_Row_become : kOK m_Row_become := ⟨kc_Row_become, by decide +kernel⟩
set_option maxRecDepth 100000 in
theorem kk_Row_becomeTight : kOK m_Row_becomeTight := ⟨kc_Row_becomeTight, by decide +kernel⟩
set_option maxRecDepth 100000 in
theorem kk_Row_becomeJoined : kOK m_Row_becomeJoined := ⟨kc_Row_becomeJoined, by decide +kernel⟩
set_option maxRecDepth 100000 in
theorem kk_Row_isTight : kOK m_Row_isTight := ⟨kc_Row_isTight, by decide +kernel⟩
set_option maxRecDepth 100000 in
theorem kk_Row_commonStart : kOK m_Row_commonStart := ⟨kc_Row_commonStart, by decide +kernel⟩
set_option maxRecDepth 100000 in
theorem kk_Row_isLike : kOK m_Row_isLike := ⟨kc_Row_isLike, by decide +kernel⟩
set_option maxRecDepth 100000 in
theorem kk_Row_compareWith : kOK m_Row_compareWith := ⟨kc_Row_compareWith, by decide +kernel⟩
set_option maxRecDepth 100000 in
theorem kk_Row_differences : kOK m_Row_differences := ⟨kc_Row_differences, by decide +kernel⟩
set_option maxRecDepth 100000 in
theorem kk_Row_shortestRepeated : kOK m_Row_shortestRepeated := ⟨kc_Row_shortestRepeated, by decide +kernel⟩
set_option maxRecDepth 100000 in
theorem kk_Row_repeats : kOK m_Row_repeats := ⟨kc_Row_repeats, by decide +kernel⟩
set_option maxRecDepth 100000 in
theorem kk_Row_lostByBending : kOK m_Row_lostByBending := ⟨kc_Row_lostByBending, by decide +kernel⟩
set_option maxRecDepth 100000 in
theorem kk_Row_isRingOf : kOK m_Row_isRingOf := ⟨kc_Row_isRingOf, by decide +kernel⟩
set_option maxRecDepth 100000 in
theorem kk_Row_isRingBegunAt : kOK m_Row_isRingBegunAt := ⟨kc_Row_isRingBegunAt, by decide +kernel⟩
set_option maxRecDepth 100000 in
theorem kk_Text_init : kOK m_Text_init := ⟨kc_Text_init, by decide +kernel⟩
set_option maxRecDepth 100000 in
theorem kk_Text_append : kOK m_Text_append := ⟨kc_Text_append, by decide +kernel⟩
set_option maxRecDepth 100000 in
theorem kk_Text_empty : kOK m_Text_empty := ⟨kc_Text_empty, by decide +kernel⟩
set_option maxRecDepth 100000 in
theorem kk_Text_isTurnLetter : kOK m_Text_isTurnLetter := ⟨kc_Text_isTurnLetter, by decide +kernel⟩
set_option maxRecDepth 100000 in
theorem kk_Text_fault : kOK m_Text_fault := ⟨kc_Text_fault, by decide +kernel⟩
set_option maxRecDepth 100000 in
theorem kk_Text_tell : kOK m_Text_tell := ⟨kc_Text_tell, by decide +kernel⟩
set_option maxRecDepth 100000 in
theorem kk_KN_init : kOK m_KN_init := ⟨kc_KN_init, by decide +kernel⟩
set_option maxRecDepth 100000 in
theorem kk_KN_type : kOK m_KN_type := ⟨kc_KN_type, by decide +kernel⟩
set_option maxRecDepth 100000 in
theorem kk_KN_clear : kOK m_KN_clear := ⟨kc_KN_clear, by decide +kernel⟩
set_option maxRecDepth 100000 in
theorem kk_KN_camp : kOK m_KN_camp := ⟨kc_KN_camp, by decide +kernel⟩
set_option maxRecDepth 100000 in
theorem kk_KN_name : kOK m_KN_name := ⟨kc_KN_name, by decide +kernel⟩
set_option maxRecDepth 100000 in
theorem kk_KN_contract : kOK m_KN_contract := ⟨kc_KN_contract, by decide +kernel⟩
set_option maxRecDepth 100000 in
theorem kk_KN_now : kOK m_KN_now := ⟨kc_KN_now, by decide +kernel⟩
set_option maxRecDepth 100000 in
theorem kk_KN_ties : kOK m_KN_ties := ⟨kc_KN_ties, by decide +kernel⟩
set_option maxRecDepth 100000 in
theorem kk_KN_loosens : kOK m_KN_loosens := ⟨kc_KN_loosens, by decide +kernel⟩
set_option maxRecDepth 100000 in
theorem kk_KN_bends : kOK m_KN_bends := ⟨kc_KN_bends, by decide +kernel⟩
set_option maxRecDepth 100000 in
theorem kk_KN_unties : kOK m_KN_unties := ⟨kc_KN_unties, by decide +kernel⟩
set_option maxRecDepth 100000 in
theorem kk_KN_adds : kOK m_KN_adds := ⟨kc_KN_adds, by decide +kernel⟩
set_option maxRecDepth 100000 in
theorem kk_KN_tears : kOK m_KN_tears := ⟨kc_KN_tears, by decide +kernel⟩
set_option maxRecDepth 100000 in
theorem kk_KN_undo : kOK m_KN_undo := ⟨kc_KN_undo, by decide +kernel⟩
set_option maxRecDepth 100000 in
theorem kk_KN_alike : kOK m_KN_alike := ⟨kc_KN_alike, by decide +kernel⟩
set_option maxRecDepth 100000 in
theorem kk_KN_ring : kOK m_KN_ring := ⟨kc_KN_ring, by decide +kernel⟩
set_option maxRecDepth 100000 in
theorem kk_KN_way : kOK m_KN_way := ⟨kc_KN_way, by decide +kernel⟩
set_option maxRecDepth 100000 in
theorem kk_KN_root : kOK m_KN_root := ⟨kc_KN_root, by decide +kernel⟩
set_option maxRecDepth 100000 in
theorem kk_KN_order : kOK m_KN_order := ⟨kc_KN_order, by decide +kernel⟩
set_option maxRecDepth 100000 in
theorem kk_KN_cold : kOK m_KN_cold := ⟨kc_KN_cold, by decide +kernel⟩
set_option maxRecDepth 100000 in
theorem kk_KN_mixed : kOK m_KN_mixed := ⟨kc_KN_mixed, by decide +kernel⟩
set_option maxRecDepth 100000 in
theorem kk_KN_newName : kOK m_KN_newName := ⟨kc_KN_newName, by decide +kernel⟩
set_option maxRecDepth 100000 in
theorem kk_KN_pulls : kOK m_KN_pulls := ⟨kc_KN_pulls, by decide +kernel⟩
set_option maxRecDepth 100000 in
theorem kk_KN_lives : kOK m_KN_lives := ⟨kc_KN_lives, by decide +kernel⟩
set_option maxRecDepth 100000 in
theorem kk_KN_next : kOK m_KN_next := ⟨kc_KN_next, by decide +kernel⟩
set_option maxRecDepth 100000 in
theorem kk_KN_porridge : kOK m_KN_porridge := ⟨kc_KN_porridge, by decide +kernel⟩
set_option maxRecDepth 100000 in
theorem kk_KN_share : kOK m_KN_share := ⟨kc_KN_share, by decide +kernel⟩
set_option maxRecDepth 100000 in
theorem kk_KN_rate : kOK m_KN_rate := ⟨kc_KN_rate, by decide +kernel⟩
set_option maxRecDepth 100000 in
theorem kk_KN_keep : kOK m_KN_keep := ⟨kc_KN_keep, by decide +kernel⟩
set_option maxRecDepth 100000 in
theorem kk_KN_back : kOK m_KN_back := ⟨kc_KN_back, by decide +kernel⟩
set_option maxRecDepth 100000 in
theorem kk_KN_count : kOK m_KN_count := ⟨kc_KN_count, by decide +kernel⟩
set_option maxRecDepth 100000 in
theorem kk_KN_trace : kOK m_KN_trace := ⟨kc_KN_trace, by decide +kernel⟩
set_option maxRecDepth 100000 in
theorem kk_KN_asHerder : kOK m_KN_asHerder := ⟨kc_KN_asHerder, by decide +kernel⟩
set_option maxRecDepth 100000 in
theorem kk_KN_asChief : kOK m_KN_asChief := ⟨kc_KN_asChief, by decide +kernel⟩
set_option maxRecDepth 100000 in
theorem kk_KN_asLiar : kOK m_KN_asLiar := ⟨kc_KN_asLiar, by decide +kernel⟩
set_option maxRecDepth 100000 in
theorem kk_KN_asFist : kOK m_KN_asFist := ⟨kc_KN_asFist, by decide +kernel⟩
set_option maxRecDepth 100000 in
theorem kk_KN_asThief : kOK m_KN_asThief := ⟨kc_KN_asThief, by decide +kernel⟩
set_option maxRecDepth 100000 in
theorem kk_KN_asWidow : kOK m_KN_asWidow := ⟨kc_KN_asWidow, by decide +kernel⟩
set_option maxRecDepth 100000 in
theorem kk_KN_isWithin : kOK m_KN_isWithin := ⟨kc_KN_isWithin, by decide +kernel⟩
set_option maxRecDepth 100000 in
theorem kk_KN_isTurn : kOK m_KN_isTurn := ⟨kc_KN_isTurn, by decide +kernel⟩
set_option maxRecDepth 100000 in
theorem kk_KN_undoing : kOK m_KN_undoing := ⟨kc_KN_undoing, by decide +kernel⟩
set_option maxRecDepth 100000 in
theorem kk_KN_lengthOrTurn : kOK m_KN_lengthOrTurn := ⟨kc_KN_lengthOrTurn, by decide +kernel⟩
set_option maxRecDepth 100000 in
theorem kk_KN_takenFor : kOK m_KN_takenFor := ⟨kc_KN_takenFor, by decide +kernel⟩
set_option maxRecDepth 100000 in
theorem kk_KN_power : kOK m_KN_power := ⟨kc_KN_power, by decide +kernel⟩
set_option maxRecDepth 100000 in
theorem kk_KN_leastTerms : kOK m_KN_leastTerms := ⟨kc_KN_leastTerms, by decide +kernel⟩
set_option maxRecDepth 100000 in
theorem kk_KN_commonDivisor : kOK m_KN_commonDivisor := ⟨kc_KN_commonDivisor, by decide +kernel⟩
set_option maxRecDepth 100000 in
theorem kk_KN_mostPairs : kOK m_KN_mostPairs := ⟨kc_KN_mostPairs, by decide +kernel⟩
set_option maxRecDepth 100000 in
theorem kk_KN_mostPairsWithin : kOK m_KN_mostPairsWithin := ⟨kc_KN_mostPairsWithin, by decide +kernel⟩
set_option maxRecDepth 100000 in
theorem kk_MD_init : kOK m_MD_init := ⟨kc_MD_init, by decide +kernel⟩
set_option maxRecDepth 100000 in
theorem kk_MD_in : kOK m_MD_in := ⟨kc_MD_in, by decide +kernel⟩
set_option maxRecDepth 100000 in
theorem kk_MD_isTwo : kOK m_MD_isTwo := ⟨kc_MD_isTwo, by decide +kernel⟩
set_option maxRecDepth 100000 in
theorem kk_MD_isTurn : kOK m_MD_isTurn := ⟨kc_MD_isTurn, by decide +kernel⟩
set_option maxRecDepth 100000 in
theorem kk_MD_bits : kOK m_MD_bits := ⟨kc_MD_bits, by decide +kernel⟩
set_option maxRecDepth 100000 in
theorem kk_MD_tie : kOK m_MD_tie := ⟨kc_MD_tie, by decide +kernel⟩
set_option maxRecDepth 100000 in
theorem kk_MD_tieRow : kOK m_MD_tieRow := ⟨kc_MD_tieRow, by decide +kernel⟩
set_option maxRecDepth 100000 in
theorem kk_MD_tieName : kOK m_MD_tieName := ⟨kc_MD_tieName, by decide +kernel⟩
set_option maxRecDepth 100000 in
theorem kk_MD_type : kOK m_MD_type := ⟨kc_MD_type, by decide +kernel⟩
set_option maxRecDepth 100000 in
theorem kk_MD_clear : kOK m_MD_clear := ⟨kc_MD_clear, by decide +kernel⟩
set_option maxRecDepth 100000 in
theorem kk_MD_turnOf : kOK m_MD_turnOf := ⟨kc_MD_turnOf, by decide +kernel⟩
set_option maxRecDepth 100000 in
theorem kk_MD_ahead : kOK m_MD_ahead := ⟨kc_MD_ahead, by decide +kernel⟩
set_option maxRecDepth 100000 in
theorem kk_MD_takesHerder : kOK m_MD_takesHerder := ⟨kc_MD_takesHerder, by decide +kernel⟩
set_option maxRecDepth 100000 in
theorem kk_MD_camp : kOK m_MD_camp := ⟨kc_MD_camp, by decide +kernel⟩
set_option maxRecDepth 100000 in
theorem kk_MD_copies : kOK m_MD_copies := ⟨kc_MD_copies, by decide +kernel⟩
set_option maxRecDepth 100000 in
theorem kk_MD_isHerder : kOK m_MD_isHerder := ⟨kc_MD_isHerder, by decide +kernel⟩
set_option maxRecDepth 100000 in
theorem kk_MD_name : kOK m_MD_name := ⟨kc_MD_name, by decide +kernel⟩
set_option maxRecDepth 100000 in
theorem kk_MD_contract : kOK m_MD_contract := ⟨kc_MD_contract, by decide +kernel⟩
set_option maxRecDepth 100000 in
theorem kk_MD_turnsOfAll : kOK m_MD_turnsOfAll := ⟨kc_MD_turnsOfAll, by decide +kernel⟩
set_option maxRecDepth 100000 in
theorem kk_MD_namesThere : kOK m_MD_namesThere := ⟨kc_MD_namesThere, by decide +kernel⟩
set_option maxRecDepth 100000 in
theorem kk_MD_now : kOK m_MD_now := ⟨kc_MD_now, by decide +kernel⟩
set_option maxRecDepth 100000 in
theorem kk_MD_remember : kOK m_MD_remember := ⟨kc_MD_remember, by decide +kernel⟩
set_option maxRecDepth 100000 in
theorem kk_MD_names : kOK m_MD_names := ⟨kc_MD_names, by decide +kernel⟩
set_option maxRecDepth 100000 in
theorem kk_MD_ties : kOK m_MD_ties := ⟨kc_MD_ties, by decide +kernel⟩
set_option maxRecDepth 100000 in
theorem kk_MD_loosens : kOK m_MD_loosens := ⟨kc_MD_loosens, by decide +kernel⟩
set_option maxRecDepth 100000 in
theorem kk_MD_bends : kOK m_MD_bends := ⟨kc_MD_bends, by decide +kernel⟩
set_option maxRecDepth 100000 in
theorem kk_MD_unties : kOK m_MD_unties := ⟨kc_MD_unties, by decide +kernel⟩
set_option maxRecDepth 100000 in
theorem kk_MD_adds : kOK m_MD_adds := ⟨kc_MD_adds, by decide +kernel⟩
set_option maxRecDepth 100000 in
theorem kk_MD_tears : kOK m_MD_tears := ⟨kc_MD_tears, by decide +kernel⟩
set_option maxRecDepth 100000 in
theorem kk_MD_undo : kOK m_MD_undo := ⟨kc_MD_undo, by decide +kernel⟩
set_option maxRecDepth 100000 in
theorem kk_MD_turnAt : kOK m_MD_turnAt := ⟨kc_MD_turnAt, by decide +kernel⟩
set_option maxRecDepth 100000 in
theorem kk_MD_unlike : kOK m_MD_unlike := ⟨kc_MD_unlike, by decide +kernel⟩
set_option maxRecDepth 100000 in
theorem kk_MD_nearTo : kOK m_MD_nearTo := ⟨kc_MD_nearTo, by decide +kernel⟩
set_option maxRecDepth 100000 in
theorem kk_MD_alikeOf : kOK m_MD_alikeOf := ⟨kc_MD_alikeOf, by decide +kernel⟩
set_option maxRecDepth 100000 in
theorem kk_MD_alike : kOK m_MD_alike := ⟨kc_MD_alike, by decide +kernel⟩
set_option maxRecDepth 100000 in
theorem kk_MD_ends : kOK m_MD_ends := ⟨kc_MD_ends, by decide +kernel⟩
set_option maxRecDepth 100000 in
theorem kk_MD_isRing : kOK m_MD_isRing := ⟨kc_MD_isRing, by decide +kernel⟩
set_option maxRecDepth 100000 in
theorem kk_MD_ring : kOK m_MD_ring := ⟨kc_MD_ring, by decide +kernel⟩
set_option maxRecDepth 100000 in
theorem kk_MD_way : kOK m_MD_way := ⟨kc_MD_way, by decide +kernel⟩
set_option maxRecDepth 100000 in
theorem kk_MD_rootOf : kOK m_MD_rootOf := ⟨kc_MD_rootOf, by decide +kernel⟩
set_option maxRecDepth 100000 in
theorem kk_MD_root : kOK m_MD_root := ⟨kc_MD_root, by decide +kernel⟩
set_option maxRecDepth 100000 in
theorem kk_MD_isAhead : kOK m_MD_isAhead := ⟨kc_MD_isAhead, by decide +kernel⟩
set_option maxRecDepth 100000 in
theorem kk_MD_order : kOK m_MD_order := ⟨kc_MD_order, by decide +kernel⟩
set_option maxRecDepth 100000 in
theorem kk_MD_least : kOK m_MD_least := ⟨kc_MD_least, by decide +kernel⟩
set_option maxRecDepth 100000 in
theorem kk_MD_cold : kOK m_MD_cold := ⟨kc_MD_cold, by decide +kernel⟩
set_option maxRecDepth 100000 in
theorem kk_MD_mixed : kOK m_MD_mixed := ⟨kc_MD_mixed, by decide +kernel⟩
set_option maxRecDepth 100000 in
theorem kk_MD_isNew : kOK m_MD_isNew := ⟨kc_MD_isNew, by decide +kernel⟩
set_option maxRecDepth 100000 in
theorem kk_MD_newName : kOK m_MD_newName := ⟨kc_MD_newName, by decide +kernel⟩
set_option maxRecDepth 100000 in
theorem kk_MD_mend : kOK m_MD_mend := ⟨kc_MD_mend, by decide +kernel⟩
set_option maxRecDepth 100000 in
theorem kk_MD_tieContract : kOK m_MD_tieContract := ⟨kc_MD_tieContract, by decide +kernel⟩
set_option maxRecDepth 100000 in
theorem kk_MD_pulls : kOK m_MD_pulls := ⟨kc_MD_pulls, by decide +kernel⟩
set_option maxRecDepth 100000 in
theorem kk_MD_isLife : kOK m_MD_isLife := ⟨kc_MD_isLife, by decide +kernel⟩
set_option maxRecDepth 100000 in
theorem kk_MD_layContract : kOK m_MD_layContract := ⟨kc_MD_layContract, by decide +kernel⟩
set_option maxRecDepth 100000 in
theorem kk_MD_lives : kOK m_MD_lives := ⟨kc_MD_lives, by decide +kernel⟩
set_option maxRecDepth 100000 in
theorem kk_MD_next : kOK m_MD_next := ⟨kc_MD_next, by decide +kernel⟩
set_option maxRecDepth 100000 in
theorem kk_MD_porridge : kOK m_MD_porridge := ⟨kc_MD_porridge, by decide +kernel⟩
set_option maxRecDepth 100000 in
theorem kk_MD_share : kOK m_MD_share := ⟨kc_MD_share, by decide +kernel⟩
set_option maxRecDepth 100000 in
theorem kk_MD_rate : kOK m_MD_rate := ⟨kc_MD_rate, by decide +kernel⟩
set_option maxRecDepth 100000 in
theorem kk_MD_keep : kOK m_MD_keep := ⟨kc_MD_keep, by decide +kernel⟩
set_option maxRecDepth 100000 in
theorem kk_MD_back : kOK m_MD_back := ⟨kc_MD_back, by decide +kernel⟩
set_option maxRecDepth 100000 in
theorem kk_MD_count : kOK m_MD_count := ⟨kc_MD_count, by decide +kernel⟩
set_option maxRecDepth 100000 in
theorem kk_MD_trace : kOK m_MD_trace := ⟨kc_MD_trace, by decide +kernel⟩
set_option maxRecDepth 100000 in
theorem kk_JInt_compare : kOK m_JInt_compare := ⟨kc_JInt_compare, by decide +kernel⟩
set_option maxRecDepth 100000 in
theorem kk_JInt_bitCount : kOK m_JInt_bitCount := ⟨kc_JInt_bitCount, by decide +kernel⟩
set_option maxRecDepth 100000 in
theorem kk_JStr_length : kOK m_JStr_length := ⟨kc_JStr_length, by decide +kernel⟩
set_option maxRecDepth 100000 in
theorem kk_JStr_indexOf : kOK m_JStr_indexOf := ⟨kc_JStr_indexOf, by decide +kernel⟩
set_option maxRecDepth 100000 in
theorem kk_JStr_indexOf2 : kOK m_JStr_indexOf2 := ⟨kc_JStr_indexOf2, by decide +kernel⟩
set_option maxRecDepth 100000 in
theorem kk_JStr_coder : kOK m_JStr_coder := ⟨kc_JStr_coder, by decide +kernel⟩
set_option maxRecDepth 100000 in
theorem kk_JStr_isLatin1 : kOK m_JStr_isLatin1 := ⟨kc_JStr_isLatin1, by decide +kernel⟩
set_option maxRecDepth 100000 in
theorem kk_JLat_canEncode : kOK m_JLat_canEncode := ⟨kc_JLat_canEncode, by decide +kernel⟩
set_option maxRecDepth 100000 in
theorem kk_JLat_indexOf : kOK m_JLat_indexOf := ⟨kc_JLat_indexOf, by decide +kernel⟩
set_option maxRecDepth 100000 in
theorem kk_JLat_indexOfChar : kOK m_JLat_indexOfChar := ⟨kc_JLat_indexOfChar, by decide +kernel⟩
set_option maxRecDepth 100000 in
theorem kk_LAW_law : kOK m_LAW_law := ⟨kc_LAW_law, by decide +kernel⟩
theorem kOK_0 : ∀ m ∈ mt_0, kOK m := List.forall_mem_cons.mpr ⟨kk_Camp_init, List.forall_mem_cons.mpr ⟨kk_Camp_has, List.forall_mem_cons.mpr ⟨kk_Camp_nameOf, List.forall_mem_cons.mpr ⟨kk_Camp_empty, List.forall_mem_cons.mpr ⟨kk_Camp_addHerder, List.forall_mem_cons.mpr ⟨kk_Camp_tieLastHerder, List.forall_mem_cons.mpr ⟨kk_Camp_become, List.forall_mem_cons.mpr ⟨kk_Camp_turns, List.forall_mem_cons.mpr ⟨kk_Camp_named, List.forall_mem_cons.mpr ⟨kk_Camp_calledLike, List.forall_mem_cons.mpr ⟨kk_Camp_unlikeNames, List.forall_mem_cons.mpr ⟨kk_Lives_init, List.forall_mem_cons.mpr ⟨kk_Lives_readBack, List.forall_mem_cons.mpr ⟨kk_Lives_seek, List.forall_mem_cons.mpr ⟨kk_Lives_note, List.forall_mem_cons.mpr ⟨kk_Lives_inMost, List.forall_mem_cons.mpr ⟨kk_NewN_init, List.forall_mem_cons.mpr ⟨kk_NewN_find, List.forall_mem_cons.mpr ⟨kk_NewN_spell, List.forall_mem_cons.mpr ⟨kk_NewN_isFar, (fun _ h => absurd h List.not_mem_nil)⟩⟩⟩⟩⟩⟩⟩⟩⟩⟩⟩⟩⟩⟩⟩⟩⟩⟩⟩⟩
theorem kOK_1 : ∀ m ∈ mt_1, kOK m := List.forall_mem_cons.mpr ⟨kk_Past_init, List.forall_mem_cons.mpr ⟨kk_Past_remember, List.forall_mem_cons.mpr ⟨kk_Past_takeBack, List.forall_mem_cons.mpr ⟨kk_Past_forget, List.forall_mem_cons.mpr ⟨kk_Row_init, List.forall_mem_cons.mpr ⟨kk_Row_at, List.forall_mem_cons.mpr ⟨kk_Row_last, List.forall_mem_cons.mpr ⟨kk_Row_empty, List.forall_mem_cons.mpr ⟨kk_Row_append, List.forall_mem_cons.mpr ⟨kk_Row_dropLast, List.forall_mem_cons.mpr ⟨kk_Row_endsUndoing, List.forall_mem_cons.mpr ⟨kk_Row_takesTight, List.forall_mem_cons.mpr ⟨kk_Row_appendTight, List.forall_mem_cons.mpr ⟨kk_Row_appendAllTight, List.forall_mem_cons.mpr ⟨kk_Row_appendAllUndoing, List.forall_mem_cons.mpr ⟨kk_Row_become, List.forall_mem_cons.mpr ⟨kk_Row_becomeTight, List.forall_mem_cons.mpr ⟨kk_Row_becomeJoined, List.forall_mem_cons.mpr ⟨kk_Row_isTight, List.forall_mem_cons.mpr ⟨kk_Row_commonStart, (fun _ h => absurd h List.not_mem_nil)⟩⟩⟩⟩⟩⟩⟩⟩⟩⟩⟩⟩⟩⟩⟩⟩⟩⟩⟩⟩
theorem kOK_2 : ∀ m ∈ mt_2, kOK m := List.forall_mem_cons.mpr ⟨kk_Row_isLike, List.forall_mem_cons.mpr ⟨kk_Row_compareWith, List.forall_mem_cons.mpr ⟨kk_Row_differences, List.forall_mem_cons.mpr ⟨kk_Row_shortestRepeated, List.forall_mem_cons.mpr ⟨kk_Row_repeats, List.forall_mem_cons.mpr ⟨kk_Row_lostByBending, List.forall_mem_cons.mpr ⟨kk_Row_isRingOf, List.forall_mem_cons.mpr ⟨kk_Row_isRingBegunAt, List.forall_mem_cons.mpr ⟨kk_Text_init, List.forall_mem_cons.mpr ⟨kk_Text_append, List.forall_mem_cons.mpr ⟨kk_Text_empty, List.forall_mem_cons.mpr ⟨kk_Text_isTurnLetter, List.forall_mem_cons.mpr ⟨kk_Text_fault, List.forall_mem_cons.mpr ⟨kk_Text_tell, List.forall_mem_cons.mpr ⟨kk_KN_init, List.forall_mem_cons.mpr ⟨kk_KN_type, List.forall_mem_cons.mpr ⟨kk_KN_clear, List.forall_mem_cons.mpr ⟨kk_KN_camp, List.forall_mem_cons.mpr ⟨kk_KN_name, List.forall_mem_cons.mpr ⟨kk_KN_contract, (fun _ h => absurd h List.not_mem_nil)⟩⟩⟩⟩⟩⟩⟩⟩⟩⟩⟩⟩⟩⟩⟩⟩⟩⟩⟩⟩
theorem kOK_3 : ∀ m ∈ mt_3, kOK m := List.forall_mem_cons.mpr ⟨kk_KN_now, List.forall_mem_cons.mpr ⟨kk_KN_ties, List.forall_mem_cons.mpr ⟨kk_KN_loosens, List.forall_mem_cons.mpr ⟨kk_KN_bends, List.forall_mem_cons.mpr ⟨kk_KN_unties, List.forall_mem_cons.mpr ⟨kk_KN_adds, List.forall_mem_cons.mpr ⟨kk_KN_tears, List.forall_mem_cons.mpr ⟨kk_KN_undo, List.forall_mem_cons.mpr ⟨kk_KN_alike, List.forall_mem_cons.mpr ⟨kk_KN_ring, List.forall_mem_cons.mpr ⟨kk_KN_way, List.forall_mem_cons.mpr ⟨kk_KN_root, List.forall_mem_cons.mpr ⟨kk_KN_order, List.forall_mem_cons.mpr ⟨kk_KN_cold, List.forall_mem_cons.mpr ⟨kk_KN_mixed, List.forall_mem_cons.mpr ⟨kk_KN_newName, List.forall_mem_cons.mpr ⟨kk_KN_pulls, List.forall_mem_cons.mpr ⟨kk_KN_lives, List.forall_mem_cons.mpr ⟨kk_KN_next, List.forall_mem_cons.mpr ⟨kk_KN_porridge, (fun _ h => absurd h List.not_mem_nil)⟩⟩⟩⟩⟩⟩⟩⟩⟩⟩⟩⟩⟩⟩⟩⟩⟩⟩⟩⟩
theorem kOK_4 : ∀ m ∈ mt_4, kOK m := List.forall_mem_cons.mpr ⟨kk_KN_share, List.forall_mem_cons.mpr ⟨kk_KN_rate, List.forall_mem_cons.mpr ⟨kk_KN_keep, List.forall_mem_cons.mpr ⟨kk_KN_back, List.forall_mem_cons.mpr ⟨kk_KN_count, List.forall_mem_cons.mpr ⟨kk_KN_trace, List.forall_mem_cons.mpr ⟨kk_KN_asHerder, List.forall_mem_cons.mpr ⟨kk_KN_asChief, List.forall_mem_cons.mpr ⟨kk_KN_asLiar, List.forall_mem_cons.mpr ⟨kk_KN_asFist, List.forall_mem_cons.mpr ⟨kk_KN_asThief, List.forall_mem_cons.mpr ⟨kk_KN_asWidow, List.forall_mem_cons.mpr ⟨kk_KN_isWithin, List.forall_mem_cons.mpr ⟨kk_KN_isTurn, List.forall_mem_cons.mpr ⟨kk_KN_undoing, List.forall_mem_cons.mpr ⟨kk_KN_lengthOrTurn, List.forall_mem_cons.mpr ⟨kk_KN_takenFor, List.forall_mem_cons.mpr ⟨kk_KN_power, List.forall_mem_cons.mpr ⟨kk_KN_leastTerms, List.forall_mem_cons.mpr ⟨kk_KN_commonDivisor, (fun _ h => absurd h List.not_mem_nil)⟩⟩⟩⟩⟩⟩⟩⟩⟩⟩⟩⟩⟩⟩⟩⟩⟩⟩⟩⟩
theorem kOK_5 : ∀ m ∈ mt_5, kOK m := List.forall_mem_cons.mpr ⟨kk_KN_mostPairs, List.forall_mem_cons.mpr ⟨kk_KN_mostPairsWithin, List.forall_mem_cons.mpr ⟨kk_MD_init, List.forall_mem_cons.mpr ⟨kk_MD_in, List.forall_mem_cons.mpr ⟨kk_MD_isTwo, List.forall_mem_cons.mpr ⟨kk_MD_isTurn, List.forall_mem_cons.mpr ⟨kk_MD_bits, List.forall_mem_cons.mpr ⟨kk_MD_tie, List.forall_mem_cons.mpr ⟨kk_MD_tieRow, List.forall_mem_cons.mpr ⟨kk_MD_tieName, List.forall_mem_cons.mpr ⟨kk_MD_type, List.forall_mem_cons.mpr ⟨kk_MD_clear, List.forall_mem_cons.mpr ⟨kk_MD_turnOf, List.forall_mem_cons.mpr ⟨kk_MD_ahead, List.forall_mem_cons.mpr ⟨kk_MD_takesHerder, List.forall_mem_cons.mpr ⟨kk_MD_camp, List.forall_mem_cons.mpr ⟨kk_MD_copies, List.forall_mem_cons.mpr ⟨kk_MD_isHerder, List.forall_mem_cons.mpr ⟨kk_MD_name, List.forall_mem_cons.mpr ⟨kk_MD_contract, (fun _ h => absurd h List.not_mem_nil)⟩⟩⟩⟩⟩⟩⟩⟩⟩⟩⟩⟩⟩⟩⟩⟩⟩⟩⟩⟩
theorem kOK_6 : ∀ m ∈ mt_6, kOK m := List.forall_mem_cons.mpr ⟨kk_MD_turnsOfAll, List.forall_mem_cons.mpr ⟨kk_MD_namesThere, List.forall_mem_cons.mpr ⟨kk_MD_now, List.forall_mem_cons.mpr ⟨kk_MD_remember, List.forall_mem_cons.mpr ⟨kk_MD_names, List.forall_mem_cons.mpr ⟨kk_MD_ties, List.forall_mem_cons.mpr ⟨kk_MD_loosens, List.forall_mem_cons.mpr ⟨kk_MD_bends, List.forall_mem_cons.mpr ⟨kk_MD_unties, List.forall_mem_cons.mpr ⟨kk_MD_adds, List.forall_mem_cons.mpr ⟨kk_MD_tears, List.forall_mem_cons.mpr ⟨kk_MD_undo, List.forall_mem_cons.mpr ⟨kk_MD_turnAt, List.forall_mem_cons.mpr ⟨kk_MD_unlike, List.forall_mem_cons.mpr ⟨kk_MD_nearTo, List.forall_mem_cons.mpr ⟨kk_MD_alikeOf, List.forall_mem_cons.mpr ⟨kk_MD_alike, List.forall_mem_cons.mpr ⟨kk_MD_ends, List.forall_mem_cons.mpr ⟨kk_MD_isRing, List.forall_mem_cons.mpr ⟨kk_MD_ring, (fun _ h => absurd h List.not_mem_nil)⟩⟩⟩⟩⟩⟩⟩⟩⟩⟩⟩⟩⟩⟩⟩⟩⟩⟩⟩⟩
theorem kOK_7 : ∀ m ∈ mt_7, kOK m := List.forall_mem_cons.mpr ⟨kk_MD_way, List.forall_mem_cons.mpr ⟨kk_MD_rootOf, List.forall_mem_cons.mpr ⟨kk_MD_root, List.forall_mem_cons.mpr ⟨kk_MD_isAhead, List.forall_mem_cons.mpr ⟨kk_MD_order, List.forall_mem_cons.mpr ⟨kk_MD_least, List.forall_mem_cons.mpr ⟨kk_MD_cold, List.forall_mem_cons.mpr ⟨kk_MD_mixed, List.forall_mem_cons.mpr ⟨kk_MD_isNew, List.forall_mem_cons.mpr ⟨kk_MD_newName, List.forall_mem_cons.mpr ⟨kk_MD_mend, List.forall_mem_cons.mpr ⟨kk_MD_tieContract, List.forall_mem_cons.mpr ⟨kk_MD_pulls, List.forall_mem_cons.mpr ⟨kk_MD_isLife, List.forall_mem_cons.mpr ⟨kk_MD_layContract, List.forall_mem_cons.mpr ⟨kk_MD_lives, List.forall_mem_cons.mpr ⟨kk_MD_next, List.forall_mem_cons.mpr ⟨kk_MD_porridge, List.forall_mem_cons.mpr ⟨kk_MD_share, List.forall_mem_cons.mpr ⟨kk_MD_rate, (fun _ h => absurd h List.not_mem_nil)⟩⟩⟩⟩⟩⟩⟩⟩⟩⟩⟩⟩⟩⟩⟩⟩⟩⟩⟩⟩
theorem kOK_8 : ∀ m ∈ mt_8, kOK m := List.forall_mem_cons.mpr ⟨kk_MD_keep, List.forall_mem_cons.mpr ⟨kk_MD_back, List.forall_mem_cons.mpr ⟨kk_MD_count, List.forall_mem_cons.mpr ⟨kk_MD_trace, List.forall_mem_cons.mpr ⟨kk_JInt_compare, List.forall_mem_cons.mpr ⟨kk_JInt_bitCount, List.forall_mem_cons.mpr ⟨kk_JStr_length, List.forall_mem_cons.mpr ⟨kk_JStr_indexOf, List.forall_mem_cons.mpr ⟨kk_JStr_indexOf2, List.forall_mem_cons.mpr ⟨kk_JStr_coder, List.forall_mem_cons.mpr ⟨kk_JStr_isLatin1, List.forall_mem_cons.mpr ⟨kk_JLat_canEncode, List.forall_mem_cons.mpr ⟨kk_JLat_indexOf, List.forall_mem_cons.mpr ⟨kk_JLat_indexOfChar, List.forall_mem_cons.mpr ⟨kk_LAW_law, (fun _ h => absurd h List.not_mem_nil)⟩⟩⟩⟩⟩⟩⟩⟩⟩⟩⟩⟩⟩⟩⟩
theorem mt_k : ∀ m ∈ mt, kOK m := List.forall_mem_append.mpr ⟨kOK_0, List.forall_mem_append.mpr ⟨kOK_1, List.forall_mem_append.mpr ⟨kOK_2, List.forall_mem_append.mpr ⟨kOK_3, List.forall_mem_append.mpr ⟨kOK_4, List.forall_mem_append.mpr ⟨kOK_5, List.forall_mem_append.mpr ⟨kOK_6, List.forall_mem_append.mpr ⟨kOK_7, kOK_8⟩⟩⟩⟩⟩⟩⟩⟩
theorem mOKa_0 : ∀ m ∈ mt_0, m = m_LAW_law ∨ ∃ q, mOK m q := List.forall_mem_cons.mpr ⟨Or.inr ⟨_, mo_Camp_init⟩, List.forall_mem_cons.mpr ⟨Or.inr ⟨_, mo_Camp_has⟩, List.forall_mem_cons.mpr ⟨Or.inr ⟨_, mo_Camp_nameOf⟩, List.forall_mem_cons.mpr ⟨Or.inr ⟨_, mo_Camp_empty⟩, List.forall_mem_cons.mpr ⟨Or.inr ⟨_, mo_Camp_addHerder⟩, List.forall_mem_cons.mpr ⟨Or.inr ⟨_, mo_Camp_tieLastHerder⟩, List.forall_mem_cons.mpr ⟨Or.inr ⟨_, mo_Camp_become⟩, List.forall_mem_cons.mpr ⟨Or.inr ⟨_, mo_Camp_turns⟩, List.forall_mem_cons.mpr ⟨Or.inr ⟨_, mo_Camp_named⟩, List.forall_mem_cons.mpr ⟨Or.inr ⟨_, mo_Camp_calledLike⟩, List.forall_mem_cons.mpr ⟨Or.inr ⟨_, mo_Camp_unlikeNames⟩, List.forall_mem_cons.mpr ⟨Or.inr ⟨_, mo_Lives_init⟩, List.forall_mem_cons.mpr ⟨Or.inr ⟨_, mo_Lives_readBack⟩, List.forall_mem_cons.mpr ⟨Or.inr ⟨_, mo_Lives_seek⟩, List.forall_mem_cons.mpr ⟨Or.inr ⟨_, mo_Lives_note⟩, List.forall_mem_cons.mpr ⟨Or.inr ⟨_, mo_Lives_inMost⟩, List.forall_mem_cons.mpr ⟨Or.inr ⟨_, mo_NewN_init⟩, List.forall_mem_cons.mpr ⟨Or.inr ⟨_, mo_NewN_find⟩, List.forall_mem_cons.mpr ⟨Or.inr ⟨_, mo_NewN_spell⟩, List.forall_mem_cons.mpr ⟨Or.inr ⟨_, mo_NewN_isFar⟩, (fun _ h => absurd h List.not_mem_nil)⟩⟩⟩⟩⟩⟩⟩⟩⟩⟩⟩⟩⟩⟩⟩⟩⟩⟩⟩⟩
theorem mOKa_1 : ∀ m ∈ mt_1, m = m_LAW_law ∨ ∃ q, mOK m q := List.forall_mem_cons.mpr ⟨Or.inr ⟨_, mo_Past_init⟩, List.forall_mem_cons.mpr ⟨Or.inr ⟨_, mo_Past_remember⟩, List.forall_mem_cons.mpr ⟨Or.inr ⟨_, mo_Past_takeBack⟩, List.forall_mem_cons.mpr ⟨Or.inr ⟨_, mo_Past_forget⟩, List.forall_mem_cons.mpr ⟨Or.inr ⟨_, mo_Row_init⟩, List.forall_mem_cons.mpr ⟨Or.inr ⟨_, mo_Row_at⟩, List.forall_mem_cons.mpr ⟨Or.inr ⟨_, mo_Row_last⟩, List.forall_mem_cons.mpr ⟨Or.inr ⟨_, mo_Row_empty⟩, List.forall_mem_cons.mpr ⟨Or.inr ⟨_, mo_Row_append⟩, List.forall_mem_cons.mpr ⟨Or.inr ⟨_, mo_Row_dropLast⟩, List.forall_mem_cons.mpr ⟨Or.inr ⟨_, mo_Row_endsUndoing⟩, List.forall_mem_cons.mpr ⟨Or.inr ⟨_, mo_Row_takesTight⟩, List.forall_mem_cons.mpr ⟨Or.inr ⟨_, mo_Row_appendTight⟩, List.forall_mem_cons.mpr ⟨Or.inr ⟨_, mo_Row_appendAllTight⟩, List.forall_mem_cons.mpr ⟨Or.inr ⟨_, mo_Row_appendAllUndoing⟩, List.forall_mem_cons.mpr ⟨Or.inr ⟨_, mo_Row_become⟩, List.forall_mem_cons.mpr ⟨Or.inr ⟨_, mo_Row_becomeTight⟩, List.forall_mem_cons.mpr ⟨Or.inr ⟨_, mo_Row_becomeJoined⟩, List.forall_mem_cons.mpr ⟨Or.inr ⟨_, mo_Row_isTight⟩, List.forall_mem_cons.mpr ⟨Or.inr ⟨_, mo_Row_commonStart⟩, (fun _ h => absurd h List.not_mem_nil)⟩⟩⟩⟩⟩⟩⟩⟩⟩⟩⟩⟩⟩⟩⟩⟩⟩⟩⟩⟩
theorem mOKa_2 : ∀ m ∈ mt_2, m = m_LAW_law ∨ ∃ q, mOK m q := List.forall_mem_cons.mpr ⟨Or.inr ⟨_, mo_Row_isLike⟩, List.forall_mem_cons.mpr ⟨Or.inr ⟨_, mo_Row_compareWith⟩, List.forall_mem_cons.mpr ⟨Or.inr ⟨_, mo_Row_differences⟩, List.forall_mem_cons.mpr ⟨Or.inr ⟨_, mo_Row_shortestRepeated⟩, List.forall_mem_cons.mpr ⟨Or.inr ⟨_, mo_Row_repeats⟩, List.forall_mem_cons.mpr ⟨Or.inr ⟨_, mo_Row_lostByBending⟩, List.forall_mem_cons.mpr ⟨Or.inr ⟨_, mo_Row_isRingOf⟩, List.forall_mem_cons.mpr ⟨Or.inr ⟨_, mo_Row_isRingBegunAt⟩, List.forall_mem_cons.mpr ⟨Or.inr ⟨_, mo_Text_init⟩, List.forall_mem_cons.mpr ⟨Or.inr ⟨_, mo_Text_append⟩, List.forall_mem_cons.mpr ⟨Or.inr ⟨_, mo_Text_empty⟩, List.forall_mem_cons.mpr ⟨Or.inr ⟨_, mo_Text_isTurnLetter⟩, List.forall_mem_cons.mpr ⟨Or.inr ⟨_, mo_Text_fault⟩, List.forall_mem_cons.mpr ⟨Or.inr ⟨_, mo_Text_tell⟩, List.forall_mem_cons.mpr ⟨Or.inr ⟨_, mo_KN_init⟩, List.forall_mem_cons.mpr ⟨Or.inr ⟨_, mo_KN_type⟩, List.forall_mem_cons.mpr ⟨Or.inr ⟨_, mo_KN_clear⟩, List.forall_mem_cons.mpr ⟨Or.inr ⟨_, mo_KN_camp⟩, List.forall_mem_cons.mpr ⟨Or.inr ⟨_, mo_KN_name⟩, List.forall_mem_cons.mpr ⟨Or.inr ⟨_, mo_KN_contract⟩, (fun _ h => absurd h List.not_mem_nil)⟩⟩⟩⟩⟩⟩⟩⟩⟩⟩⟩⟩⟩⟩⟩⟩⟩⟩⟩⟩
theorem mOKa_3 : ∀ m ∈ mt_3, m = m_LAW_law ∨ ∃ q, mOK m q := List.forall_mem_cons.mpr ⟨Or.inr ⟨_, mo_KN_now⟩, List.forall_mem_cons.mpr ⟨Or.inr ⟨_, mo_KN_ties⟩, List.forall_mem_cons.mpr ⟨Or.inr ⟨_, mo_KN_loosens⟩, List.forall_mem_cons.mpr ⟨Or.inr ⟨_, mo_KN_bends⟩, List.forall_mem_cons.mpr ⟨Or.inr ⟨_, mo_KN_unties⟩, List.forall_mem_cons.mpr ⟨Or.inr ⟨_, mo_KN_adds⟩, List.forall_mem_cons.mpr ⟨Or.inr ⟨_, mo_KN_tears⟩, List.forall_mem_cons.mpr ⟨Or.inr ⟨_, mo_KN_undo⟩, List.forall_mem_cons.mpr ⟨Or.inr ⟨_, mo_KN_alike⟩, List.forall_mem_cons.mpr ⟨Or.inr ⟨_, mo_KN_ring⟩, List.forall_mem_cons.mpr ⟨Or.inr ⟨_, mo_KN_way⟩, List.forall_mem_cons.mpr ⟨Or.inr ⟨_, mo_KN_root⟩, List.forall_mem_cons.mpr ⟨Or.inr ⟨_, mo_KN_order⟩, List.forall_mem_cons.mpr ⟨Or.inr ⟨_, mo_KN_cold⟩, List.forall_mem_cons.mpr ⟨Or.inr ⟨_, mo_KN_mixed⟩, List.forall_mem_cons.mpr ⟨Or.inr ⟨_, mo_KN_newName⟩, List.forall_mem_cons.mpr ⟨Or.inr ⟨_, mo_KN_pulls⟩, List.forall_mem_cons.mpr ⟨Or.inr ⟨_, mo_KN_lives⟩, List.forall_mem_cons.mpr ⟨Or.inr ⟨_, mo_KN_next⟩, List.forall_mem_cons.mpr ⟨Or.inr ⟨_, mo_KN_porridge⟩, (fun _ h => absurd h List.not_mem_nil)⟩⟩⟩⟩⟩⟩⟩⟩⟩⟩⟩⟩⟩⟩⟩⟩⟩⟩⟩⟩
theorem mOKa_4 : ∀ m ∈ mt_4, m = m_LAW_law ∨ ∃ q, mOK m q := List.forall_mem_cons.mpr ⟨Or.inr ⟨_, mo_KN_share⟩, List.forall_mem_cons.mpr ⟨Or.inr ⟨_, mo_KN_rate⟩, List.forall_mem_cons.mpr ⟨Or.inr ⟨_, mo_KN_keep⟩, List.forall_mem_cons.mpr ⟨Or.inr ⟨_, mo_KN_back⟩, List.forall_mem_cons.mpr ⟨Or.inr ⟨_, mo_KN_count⟩, List.forall_mem_cons.mpr ⟨Or.inr ⟨_, mo_KN_trace⟩, List.forall_mem_cons.mpr ⟨Or.inr ⟨_, mo_KN_asHerder⟩, List.forall_mem_cons.mpr ⟨Or.inr ⟨_, mo_KN_asChief⟩, List.forall_mem_cons.mpr ⟨Or.inr ⟨_, mo_KN_asLiar⟩, List.forall_mem_cons.mpr ⟨Or.inr ⟨_, mo_KN_asFist⟩, List.forall_mem_cons.mpr ⟨Or.inr ⟨_, mo_KN_asThief⟩, List.forall_mem_cons.mpr ⟨Or.inr ⟨_, mo_KN_asWidow⟩, List.forall_mem_cons.mpr ⟨Or.inr ⟨_, mo_KN_isWithin⟩, List.forall_mem_cons.mpr ⟨Or.inr ⟨_, mo_KN_isTurn⟩, List.forall_mem_cons.mpr ⟨Or.inr ⟨_, mo_KN_undoing⟩, List.forall_mem_cons.mpr ⟨Or.inr ⟨_, mo_KN_lengthOrTurn⟩, List.forall_mem_cons.mpr ⟨Or.inr ⟨_, mo_KN_takenFor⟩, List.forall_mem_cons.mpr ⟨Or.inr ⟨_, mo_KN_power⟩, List.forall_mem_cons.mpr ⟨Or.inr ⟨_, mo_KN_leastTerms⟩, List.forall_mem_cons.mpr ⟨Or.inr ⟨_, mo_KN_commonDivisor⟩, (fun _ h => absurd h List.not_mem_nil)⟩⟩⟩⟩⟩⟩⟩⟩⟩⟩⟩⟩⟩⟩⟩⟩⟩⟩⟩⟩
theorem mOKa_5 : ∀ m ∈ mt_5, m = m_LAW_law ∨ ∃ q, mOK m q := List.forall_mem_cons.mpr ⟨Or.inr ⟨_, mo_KN_mostPairs⟩, List.forall_mem_cons.mpr ⟨Or.inr ⟨_, mo_KN_mostPairsWithin⟩, List.forall_mem_cons.mpr ⟨Or.inr ⟨_, mo_MD_init⟩, List.forall_mem_cons.mpr ⟨Or.inr ⟨_, mo_MD_in⟩, List.forall_mem_cons.mpr ⟨Or.inr ⟨_, mo_MD_isTwo⟩, List.forall_mem_cons.mpr ⟨Or.inr ⟨_, mo_MD_isTurn⟩, List.forall_mem_cons.mpr ⟨Or.inr ⟨_, mo_MD_bits⟩, List.forall_mem_cons.mpr ⟨Or.inr ⟨_, mo_MD_tie⟩, List.forall_mem_cons.mpr ⟨Or.inr ⟨_, mo_MD_tieRow⟩, List.forall_mem_cons.mpr ⟨Or.inr ⟨_, mo_MD_tieName⟩, List.forall_mem_cons.mpr ⟨Or.inr ⟨_, mo_MD_type⟩, List.forall_mem_cons.mpr ⟨Or.inr ⟨_, mo_MD_clear⟩, List.forall_mem_cons.mpr ⟨Or.inr ⟨_, mo_MD_turnOf⟩, List.forall_mem_cons.mpr ⟨Or.inr ⟨_, mo_MD_ahead⟩, List.forall_mem_cons.mpr ⟨Or.inr ⟨_, mo_MD_takesHerder⟩, List.forall_mem_cons.mpr ⟨Or.inr ⟨_, mo_MD_camp⟩, List.forall_mem_cons.mpr ⟨Or.inr ⟨_, mo_MD_copies⟩, List.forall_mem_cons.mpr ⟨Or.inr ⟨_, mo_MD_isHerder⟩, List.forall_mem_cons.mpr ⟨Or.inr ⟨_, mo_MD_name⟩, List.forall_mem_cons.mpr ⟨Or.inr ⟨_, mo_MD_contract⟩, (fun _ h => absurd h List.not_mem_nil)⟩⟩⟩⟩⟩⟩⟩⟩⟩⟩⟩⟩⟩⟩⟩⟩⟩⟩⟩⟩
theorem mOKa_6 : ∀ m ∈ mt_6, m = m_LAW_law ∨ ∃ q, mOK m q := List.forall_mem_cons.mpr ⟨Or.inr ⟨_, mo_MD_turnsOfAll⟩, List.forall_mem_cons.mpr ⟨Or.inr ⟨_, mo_MD_namesThere⟩, List.forall_mem_cons.mpr ⟨Or.inr ⟨_, mo_MD_now⟩, List.forall_mem_cons.mpr ⟨Or.inr ⟨_, mo_MD_remember⟩, List.forall_mem_cons.mpr ⟨Or.inr ⟨_, mo_MD_names⟩, List.forall_mem_cons.mpr ⟨Or.inr ⟨_, mo_MD_ties⟩, List.forall_mem_cons.mpr ⟨Or.inr ⟨_, mo_MD_loosens⟩, List.forall_mem_cons.mpr ⟨Or.inr ⟨_, mo_MD_bends⟩, List.forall_mem_cons.mpr ⟨Or.inr ⟨_, mo_MD_unties⟩, List.forall_mem_cons.mpr ⟨Or.inr ⟨_, mo_MD_adds⟩, List.forall_mem_cons.mpr ⟨Or.inr ⟨_, mo_MD_tears⟩, List.forall_mem_cons.mpr ⟨Or.inr ⟨_, mo_MD_undo⟩, List.forall_mem_cons.mpr ⟨Or.inr ⟨_, mo_MD_turnAt⟩, List.forall_mem_cons.mpr ⟨Or.inr ⟨_, mo_MD_unlike⟩, List.forall_mem_cons.mpr ⟨Or.inr ⟨_, mo_MD_nearTo⟩, List.forall_mem_cons.mpr ⟨Or.inr ⟨_, mo_MD_alikeOf⟩, List.forall_mem_cons.mpr ⟨Or.inr ⟨_, mo_MD_alike⟩, List.forall_mem_cons.mpr ⟨Or.inr ⟨_, mo_MD_ends⟩, List.forall_mem_cons.mpr ⟨Or.inr ⟨_, mo_MD_isRing⟩, List.forall_mem_cons.mpr ⟨Or.inr ⟨_, mo_MD_ring⟩, (fun _ h => absurd h List.not_mem_nil)⟩⟩⟩⟩⟩⟩⟩⟩⟩⟩⟩⟩⟩⟩⟩⟩⟩⟩⟩⟩
theorem mOKa_7 : ∀ m ∈ mt_7, m = m_LAW_law ∨ ∃ q, mOK m q := List.forall_mem_cons.mpr ⟨Or.inr ⟨_, mo_MD_way⟩, List.forall_mem_cons.mpr ⟨Or.inr ⟨_, mo_MD_rootOf⟩, List.forall_mem_cons.mpr ⟨Or.inr ⟨_, mo_MD_root⟩, List.forall_mem_cons.mpr ⟨Or.inr ⟨_, mo_MD_isAhead⟩, List.forall_mem_cons.mpr ⟨Or.inr ⟨_, mo_MD_order⟩, List.forall_mem_cons.mpr ⟨Or.inr ⟨_, mo_MD_least⟩, List.forall_mem_cons.mpr ⟨Or.inr ⟨_, mo_MD_cold⟩, List.forall_mem_cons.mpr ⟨Or.inr ⟨_, mo_MD_mixed⟩, List.forall_mem_cons.mpr ⟨Or.inr ⟨_, mo_MD_isNew⟩, List.forall_mem_cons.mpr ⟨Or.inr ⟨_, mo_MD_newName⟩, List.forall_mem_cons.mpr ⟨Or.inr ⟨_, mo_MD_mend⟩, List.forall_mem_cons.mpr ⟨Or.inr ⟨_, mo_MD_tieContract⟩, List.forall_mem_cons.mpr ⟨Or.inr ⟨_, mo_MD_pulls⟩, List.forall_mem_cons.mpr ⟨Or.inr ⟨_, mo_MD_isLife⟩, List.forall_mem_cons.mpr ⟨Or.inr ⟨_, mo_MD_layContract⟩, List.forall_mem_cons.mpr ⟨Or.inr ⟨_, mo_MD_lives⟩, List.forall_mem_cons.mpr ⟨Or.inr ⟨_, mo_MD_next⟩, List.forall_mem_cons.mpr ⟨Or.inr ⟨_, mo_MD_porridge⟩, List.forall_mem_cons.mpr ⟨Or.inr ⟨_, mo_MD_share⟩, List.forall_mem_cons.mpr ⟨Or.inr ⟨_, mo_MD_rate⟩, (fun _ h => absurd h List.not_mem_nil)⟩⟩⟩⟩⟩⟩⟩⟩⟩⟩⟩⟩⟩⟩⟩⟩⟩⟩⟩⟩
theorem mOKa_8 : ∀ m ∈ mt_8, m = m_LAW_law ∨ ∃ q, mOK m q := List.forall_mem_cons.mpr ⟨Or.inr ⟨_, mo_MD_keep⟩, List.forall_mem_cons.mpr ⟨Or.inr ⟨_, mo_MD_back⟩, List.forall_mem_cons.mpr ⟨Or.inr ⟨_, mo_MD_count⟩, List.forall_mem_cons.mpr ⟨Or.inr ⟨_, mo_MD_trace⟩, List.forall_mem_cons.mpr ⟨Or.inr ⟨_, mo_JInt_compare⟩, List.forall_mem_cons.mpr ⟨Or.inr ⟨_, mo_JInt_bitCount⟩, List.forall_mem_cons.mpr ⟨Or.inr ⟨_, mo_JStr_length⟩, List.forall_mem_cons.mpr ⟨Or.inr ⟨_, mo_JStr_indexOf⟩, List.forall_mem_cons.mpr ⟨Or.inr ⟨_, mo_JStr_indexOf2⟩, List.forall_mem_cons.mpr ⟨Or.inr ⟨_, mo_JStr_coder⟩, List.forall_mem_cons.mpr ⟨Or.inr ⟨_, mo_JStr_isLatin1⟩, List.forall_mem_cons.mpr ⟨Or.inr ⟨_, mo_JLat_canEncode⟩, List.forall_mem_cons.mpr ⟨Or.inr ⟨_, mo_JLat_indexOf⟩, List.forall_mem_cons.mpr ⟨Or.inr ⟨_, mo_JLat_indexOfChar⟩, List.forall_mem_cons.mpr ⟨Or.inl rfl, (fun _ h => absurd h List.not_mem_nil)⟩⟩⟩⟩⟩⟩⟩⟩⟩⟩⟩⟩⟩⟩⟩
theorem mOK_all : ∀ m ∈ mt, m = m_LAW_law ∨ ∃ q, mOK m q := List.forall_mem_append.mpr ⟨mOKa_0, List.forall_mem_append.mpr ⟨mOKa_1, List.forall_mem_append.mpr ⟨mOKa_2, List.forall_mem_append.mpr ⟨mOKa_3, List.forall_mem_append.mpr ⟨mOKa_4, List.forall_mem_append.mpr ⟨mOKa_5, List.forall_mem_append.mpr ⟨mOKa_6, List.forall_mem_append.mpr ⟨mOKa_7, mOKa_8⟩⟩⟩⟩⟩⟩⟩⟩
theorem zip_at {α β : Type} {as : List α} {bs : List β} {i : Nat} {a : α} (h : as[i]? = some a) (hl : as.length = bs.length) : ∃ b, (a, b) ∈ as.zip bs := by
  have hi := (List.getElem?_eq_some_iff.mp h).1
  have hb : bs[i]? = some (bs[i]'(by omega)) := List.getElem?_eq_getElem (by omega)
  exact ⟨_, List.mem_of_getElem? (i := i) (by rw [List.getElem?_zip_eq_some]; exact ⟨h, hb⟩)⟩
end
section
def Rm (d mc ms : Nat) : Room := { frames := d, cells := mc, slots := ms, locals := 64 * d }
def QcM (w : WP) (v : Option Value) (M' : Mem) : Array Value → State → Outcome → State → Prop := fun _ _ o t => o = .returned (v.map (mv w)) ∧ HR w M' t.heap
def PcM (w : WP) (As : List Value) (M : Mem) : Array Value → State → Prop := fun a U => a = (As.map (mv w)).toArray ∧ HR w M U.heap ∧ St w U
theorem popN_s : ∀ (n : Nat) (acc st As rest : List Value), popN n acc st = some (As, rest) → ∃ xs, xs.length = n ∧ st = xs ++ rest ∧ As = xs.reverse ++ acc := by
  intro n
  induction n with
  | zero =>
    intro acc st As rest h
    unfold popN at h
    cases h
    exact ⟨[], rfl, rfl, rfl⟩
  | succ n ih =>
    intro acc st As rest h
    cases st with
    | nil => unfold popN at h; cases h
    | cons v r =>
      unfold popN at h
      obtain ⟨xs, h1, h2, h3⟩ := ih _ _ _ _ h
      exact ⟨v :: xs, by rw [List.length_cons, h1], by rw [h2]; rfl, by rw [h3]; simp⟩
theorem mv_sum (w : WP) (l : List Value) : ((l.map (mv w)).map fun v => v.category).sum = (l.map fun v => v.category).sum := by
  rw [List.map_map]
  congr 1
  apply List.map_congr_left
  intro v _
  exact mv_cat w v
section G
variable {w : WP} {p : Program} {l : Launch} {e : Env} {R : Room} {s : State} {m : MethodId} {args : Array Value} {below : List Frame} {meth : Method} {c : Code} {Q : State → Prop} {nL n0 s0 nT sT : Nat} {cc : ByteArray} {o : Nat} {ini : Bool}
theorem Gd_less {pc : Nat} {lv lv' : LV} {st : List Value} {M : Mem} (hs : ∀ q ∈ lv', q ∈ lv) (h : Gd w p l e R s m args below meth c nL n0 s0 Q pc lv' st M) : Gd w p l e R s m args below meth c nL n0 s0 Q pc lv st M := by
  intro H locs ls hH h1 h2 hl hls
  refine h H locs ls hH h1 h2 hl (lv_less hls fun q hq => ?_)
  obtain ⟨x, hx, rfl⟩ := List.mem_map.mp hq
  exact List.mem_map.mpr ⟨x, hs x hx, rfl⟩
theorem PcM_blind {As : List Value} {M : Mem} : FrameBlind (PcM w As M) := by
  intro a U g mk h
  obtain ⟨h1, h2, h3⟩ := h
  exact ⟨h1, h2, St_same (s := U) (U := U.calling g mk a) rfl h3⟩
/-- behind a call -/
theorem Gd_back {pc : Nat} {lv : LV} {rest : List Value} {M M1 : Mem} {r : Option Value} {H : Heap} {locs : List Loc} {ls : Array Slot} {st0 : List Value} {aa : Array Value} (h1 : n0 ≤ mN M) (h2 : s0 ≤ mS M) (g1 : mN M ≤ mN M1) (g2 : mS M ≤ mS M1) (hl : ∀ q ∈ locs, wB w ≤ q.base) (hls : lv_has ls nL (mvl w lv))
    (hG : Gd w p l e R s m args below meth c nL n0 s0 Q (pc + 3) lv (r.toList ++ rest) M1)
    (hr : va_Run p l e R s m args below meth c H locs (mN M - n0) (mS M - s0) (mN M1 - mN M) (mS M1 - mS M) (F0 m pc ls st0) (rest.map (mv w)) (QcM w r M1 aa) (Aw w)) : W p l e R s m args below meth c H locs (mN M - n0) (mS M - s0) Q (F0 m pc ls st0) := by
  intro T hT X
  obtain ⟨v, st₀, t, T', L, e0, X', hL, e1, e2, ⟨hv, hHR⟩, st⟩ := hr T hT X
  have hv : v = r.map (mv w) := by cases hv; rfl
  subst hv
  have hW := hG T'.heap (locs ++ L) ls (by rw [e1]; exact hHR) (by omega) (by omega) (fun q hq => by
    rcases List.mem_append.mp hq with h | h
    · exact hl q h
    · exact hL q h) hls
  have hW := W.cs (cells := mN M - n0 + (mN M1 - mN M)) (slots := mS M - s0 + (mS M1 - mS M)) (by omega) (by omega) hW
  obtain ⟨t2, a1, b1⟩ := hW T' rfl X'
  refine ⟨t2, st t2 ?_, b1⟩
  have : (r.map (mv w)).toList ++ rest.map (mv w) = (r.toList ++ rest).map (mv w) := by
    cases r <;> rfl
  show Steps p.tables e below (T'.setTop (F0 m (pc + 3) ls ((r.map (mv w)).toList ++ rest.map (mv w)))) t2
  rw [this]
  exact a1
theorem recvO {M : Mem} {H : Heap} {a o2 : Nat} (hH : HR w M H) (hSt : St w s) (hold : ∀ q : Nat, q < wB w → s.heap[q]? = (wH w)[q]?) (hsz : (wH w).size = wB w) (ht : mC M a = tagOf o2) (ho : o2 < 8 ∨ o2 = 11) : ∃ cell : Cell, H[rho w a]? = some cell ∧ cell.vm.isStatics = false ∧ s.vm.findClass (nm o2) = some cell.cls := by
  rcases ho with ho | ho
  · have ht : mC M a = o2 := by rw [ht]; unfold tagOf; rw [if_neg (by omega)]
    obtain ⟨ha, hr, hat⟩ := HR_obj hH ht ho
    obtain ⟨C, T, N, ty, hcls⟩ := cls_ok ho
    obtain ⟨cell, q1, q2, q3⟩ := va_recv hSt.2.1 (va_p1 hat) hcls.1 (q0 := 0) rfl
    rw [hr]
    refine ⟨cell, q1, q2, ?_⟩
    rw [hcls.2.2.2.2.2.2.2.2.1] at q3
    exact q3
  · subst ho
    have ht : mC M a = 20 := ht
    obtain ⟨e1, -⟩ := hH.2.2.2.2.2.2.2.2 a ht
    subst e1
    have hA0 := HR_S0 (locs := []) hH hsz (fun q h => by cases h)
    obtain ⟨cell, q1, q2, q3, -⟩ := (hSt.2.2.2.2.1.1 0 (by omega)).1.kept hA0.2.1
    exact ⟨cell, q1, q2, q3⟩
set_option maxHeartbeats 4000000 in
theorem stV_ok {i : Instr} {d pc : Nat} {lv : LV} {st : List Value} {M : Mem} {K : Nat → LV → List Value → Mem → Option (Option Value × Mem)} {C : Nat → List Value → List Value → Nat → Option (Option Value × Mem)} {res : Option Value × Mem} (cx : Cx w p R s m args meth c cc o nL n0 s0 nT sT ini) (dg : ∀ k, lenI i = some k → decode cc pc = .ok (i, k)) (hR1 : d ≤ R.frames) (hR2 : 64 * d ≤ R.locals)
    (KK : ∀ pc' lv' st' M', K pc' lv' st' M' = some res → (mN M' ≤ nT ∧ mS M' ≤ sT) ∧ Gd w p l e R s m args below meth c nL n0 s0 Q pc' lv' st' M')
    (CC : ∀ cm As rest pc', C cm As rest pc' = some res → ∃ m' d' r M1, d = d' + 1 ∧ mt[cm]? = some m' ∧ mN M ≤ mN M1 ∧ mS M ≤ mS M1 ∧ mN M1 ≤ nT ∧ mS M1 ≤ sT ∧ (m'.2.1.name ≠ "law" → (As.map fun v => v.category).sum ≤ m'.2.2.2.1 → Met l m'.2.1 [.code m'.2.1 m'.2.2.1 m'.2.2.2.1 m'.2.2.2.2.1] (Rm d' (mN M1 - mN M) (mS M1 - mS M)) (PcM w As M) (QcM w r M1) (mN M1 - mN M) (mS M1 - mS M) (Aw w)) ∧ Gd w p l e R s m args below meth c nL n0 s0 Q pc' lv (r.toList ++ rest) M1)
    (h : stV none K C d o pc lv st M i = some res) : Gd w p l e R s m args below meth c nL n0 s0 Q pc lv st M := by
  obtain ⟨hx, hb, hml, hown, hSt, hold, hsz, hRc, hRs, hin⟩ := cx
  unfold stV at h
  intro H locs ls hH h1 h2 hl hls
  have getm : ∀ {cm : Nat} {m' : MT}, mt[cm]? = some m' → mt.getD cm m_LAW_law = m' := fun hm => by rw [List.getD_eq_getElem?_getD, hm]; rfl
  have facts : ∀ {cm : Nat} {m' : MT}, mt[cm]? = some m' → m'.2.1.name ≠ "law" → ∃ q, mOK m' q := fun {cm m'} hm hn => by
    rcases mOK_all m' (List.mem_of_getElem? hm) with rfl | h
    · exact absurd rfl hn
    · exact h
  have mkC : ∀ {cm : Nat} {m' : MT} {d' na : Nat} {mc ms : Nat} {q : Nat × Nat × Nat × Nat × Bool}, d = d' + 1 → mOK m' q → (parseMethodDescriptor m'.2.1.desc).map (fun d => d.parameters.length) = some na → (Rm d' mc ms).cells = mc ∧ (Rm d' mc ms).slots = ms ∧ (Rm d' mc ms).frames + 1 ≤ R.frames ∧ 8 + (m'.2.2.2.1 + 11) + (Rm d' mc ms).locals ≤ R.locals ∧ (∀ x ∈ [Cond.code m'.2.1 m'.2.2.1 m'.2.2.2.1 m'.2.2.2.2.1], ∀ (a' : Array Value) (U : State), s.WarmedH U.vm → x.before a' U = true) ∧ Cond.code m'.2.1 m'.2.2.1 m'.2.2.2.1 m'.2.2.2.2.1 ∈ [Cond.code m'.2.1 m'.2.2.1 m'.2.2.2.1 m'.2.2.2.2.1] ∧
      (Cond.code m'.2.1 m'.2.2.1 m'.2.2.2.1 m'.2.2.2.2.1).before args s = true ∧ (Cond.initialized m'.2.1.cls).before args s = true ∧ (m'.2.1.cls ≠ "java/lang/invoke/MethodHandle" ∧ m'.2.1.cls ≠ "java/lang/invoke/VarHandle") ∧ (∀ sig, parseMethodDescriptor m'.2.1.desc = some sig → na = sig.parameters.length) := by
    intro cm m' d' na mc ms q hd hmo hpar
    obtain ⟨mo1, mo2, ⟨mo3, mo4, mo5, mo6⟩, mo7, mo8⟩ := hmo
    refine ⟨rfl, rfl, by show d' + 1 ≤ _; omega, by show 8 + (m'.2.2.2.1 + 11) + 64 * d' ≤ _; omega, fun x hx a' U hW => ?_, List.mem_singleton.mpr rfl, hSt.1 _ (List.mem_of_getElem? mo1) rfl args, hSt.1 _ (List.mem_of_getElem? mo2) rfl args, mo6, fun sig hs => ?_⟩
    · rw [List.mem_singleton.mp hx]
      exact (St_warm hW hSt).1 _ (List.mem_of_getElem? mo1) rfl a'
    · rw [hs] at hpar
      exact (Option.some.inj hpar).symm
  have hPc : ∀ {As : List Value} (U : State), U.heap = H → s.WarmedH U.vm → PcM w As M (As.map (mv w)).toArray U := fun U hU hW => ⟨rfl, by rw [hU]; exact hH, St_warm hW hSt⟩
  have room : ∀ {M1 : Mem}, mN M ≤ mN M1 → mS M ≤ mS M1 → mN M1 ≤ nT → mS M1 ≤ sT → mN M - n0 + (mN M1 - mN M) ≤ R.cells ∧ mS M - s0 + (mS M1 - mS M) ≤ R.slots := fun a1 a2 a3 a4 => ⟨by omega, by omega⟩
  have lr : ∀ {rest : List Value} {st0 : List Value}, (rest.map fun v => v.category).sum ≤ 8 → 2 * (F0 m pc ls st0).monitorRoom + ((rest.map (mv w)).map fun v => v.category).sum ≤ 8 := fun {rest st0} hh => lv_room (by rw [mv_sum]; exact hh)
  split at h
  · split at h
    next cm na nest wi hres =>
      split at h
      next a As rest hpop =>
        obtain ⟨⟨hsum, hasum⟩, h⟩ := if_s h
        obtain ⟨htag, h⟩ := if_s h
        obtain ⟨m', d', r, M1, hd, hm, g1, g2, g3, g4, hMet, hG⟩ := CC _ _ _ _ h
        have hc := cR_ok (asc_mem hres)
        rw [getm hm] at htag hasum
        unfold cOK at hc
        dsimp only at hc
        rcases hc with ⟨q, -⟩ | ⟨q, -⟩ | ⟨q, -⟩ | ⟨q, -⟩ | ⟨q, -⟩ | ⟨-, ⟨-, hlaw⟩, hpar, hini, ⟨hs1, hs2⟩, hlk⟩
        · omega
        · omega
        · omega
        · omega
        · omega
        · rw [getm hm] at hlaw hpar hini hlk hs1 hs2
          obtain ⟨q, hmo⟩ := facts hm hlaw
          have hnn : m'.2.1.name ≠ "<init>" := fun z => by have := hini.mpr z; omega
          obtain ⟨mo1, mo2, ⟨mo3, mo4, mo5, mo6⟩, mo7, mo8⟩ := id hmo
          obtain ⟨xs, x1, x2, x3⟩ := popN_s _ _ _ _ _ hpop
          rw [List.append_nil] at x3
          have hst : st = As.reverse ++ .ref a :: rest := by
            have : xs = (Value.ref a :: As).reverse := by rw [x3, List.reverse_reverse]
            rw [x2, this, List.reverse_cons, List.append_assoc]
            rfl
          have hlen : (As.map (mv w)).length = na := by
            have : (Value.ref a :: As).length = na + 1 := by rw [x3, List.length_reverse]; exact x1
            rw [List.length_cons] at this
            rw [List.length_map]
            omega
          have hsw : lw_tbl[q.2.2.1]? = some (.instanceMethod m'.2.1) ∧ lw_tbl[q.2.2.2.1]? = some (.selects m'.2.1.cls m'.2.1 m'.2.1) := by
            rcases mo8 with ⟨z, -⟩ | ⟨-, z1, z2⟩
            · have := hs1.mpr z; omega
            · rcases z2 with z2 | z2
              · exact absurd z2 hnn
              · exact ⟨z1, z2⟩
          have hMet := hMet hlaw hasum
          have hst2 : st.map (mv w) = (As.map (mv w)).reverse ++ .ref (rho w a) :: rest.map (mv w) := by rw [hst, List.map_append, ← List.map_reverse]; rfl
          have hpre : PreV s H (nm m'.1) (rho w a) (PcM w (.ref a :: As) M) (As.map (mv w)) := ⟨PcM_blind, recvO hH hSt hold hsz.2 htag (hs2.1 rfl), fun U hU hW => hPc (As := .ref a :: As) U hU hW⟩
          rcases hlk with ⟨-, hw⟩ | ⟨-, hw⟩
          · obtain ⟨c1, c2, c3, c4, c5, c6, c7, c8, c9, c10⟩ := mkC (cm := cm) (mc := mN M1 - mN M) (ms := mS M1 - mS M) hd hmo hpar
            exact Gd_back h1 h2 g1 g2 hl hls hG (va_runV (Ts := []) (As := As.map (mv w)) (rest := rest.map (mv w)) (C := nm m'.1) ⟨hx, hb, hml, hown, fun _ hh => by cases hh⟩ hMet ⟨⟨c1, c2, c3, c4, c5, c6, c7, c8, c9, c10, hSt.1 _ (List.mem_of_getElem? hw) rfl args⟩, hSt.1 _ (List.mem_of_getElem? hsw.1) rfl args, by rw [← mo3]; exact hSt.1 _ (List.mem_of_getElem? hsw.2) rfl args⟩ hpre rfl hlen hls.1 hst2 (lr hsum) (dg _ rfl) (room g1 g2 g3 g4))
          · obtain ⟨c1, c2, c3, c4, c5, c6, c7, c8, c9, c10⟩ := mkC (cm := cm) (mc := mN M1 - mN M) (ms := mS M1 - mS M) hd hmo hpar
            exact Gd_back h1 h2 g1 g2 hl hls hG (va_runVN (Ts := []) (As := As.map (mv w)) (rest := rest.map (mv w)) (C := nm m'.1) ⟨hx, hb, hml, hown, fun _ hh => by cases hh⟩ hMet ⟨⟨⟨c1, c2, c3, c4, c5, c6⟩, c7, c8, c9, c10, hSt.1 _ (List.mem_of_getElem? hw) rfl args⟩, hSt.1 _ (List.mem_of_getElem? hsw.1) rfl args, by rw [← mo3]; exact hSt.1 _ (List.mem_of_getElem? hsw.2) rfl args⟩ hpre rfl hlen hls.1 hst2 (lr hsum) (dg _ rfl) (room g1 g2 g3 g4))
      next => cases h
    next => cases h
  · have mathOK : ∀ {k : Nat} {y : MethodName} {q : Nat}, lw_tbl[q]? = some (.static y) → (Cond.static y).before args s = true := fun hq => hSt.1 _ (List.mem_of_getElem? hq) rfl args
    split at h
    next cm na nest wi hres =>
      split at h
      next As rest hpop =>
        obtain ⟨⟨hsum, hasum⟩, h⟩ := if_s h
        obtain ⟨m', d', r, M1, hd, hm, g1, g2, g3, g4, hMet, hG⟩ := CC _ _ _ _ h
        have hc := cR_ok (asc_mem hres)
        rw [getm hm] at hasum
        unfold cOK at hc
        dsimp only at hc
        rcases hc with ⟨q, -⟩ | ⟨q, -⟩ | ⟨q, -⟩ | ⟨q, -⟩ | ⟨q, -⟩ | ⟨-, ⟨-, hlaw⟩, hpar, hini, ⟨hs1, hs2⟩, hlk⟩
        · omega
        · omega
        · omega
        · omega
        · omega
        · rw [getm hm] at hlaw hpar hini hlk hs1 hs2
          obtain ⟨q, hmo⟩ := facts hm hlaw
          obtain ⟨mo1, mo2, ⟨mo3, mo4, mo5, mo6⟩, mo7, mo8⟩ := id hmo
          obtain ⟨xs, x1, x2, x3⟩ := popN_s _ _ _ _ _ hpop
          rw [List.append_nil] at x3
          have hst : st = As.reverse ++ rest := by rw [x2, x3, List.reverse_reverse]
          have hlen : (As.map (mv w)).length = na := by rw [List.length_map, x3, List.length_reverse]; exact x1
          have hsw : lw_tbl[q.2.2.1]? = some (.static m'.2.1) := by
            rcases mo8 with ⟨-, z⟩ | ⟨z, -⟩
            · exact z
            · have := hs1.mp rfl
              rw [z] at this
              cases this
          have hMet := hMet hlaw hasum
          have hst2 : st.map (mv w) = (As.map (mv w)).reverse ++ rest.map (mv w) := by rw [hst, List.map_append, ← List.map_reverse]
          have hpre : PreS s H (PcM w As M) (As.map (mv w)) := ⟨PcM_blind, fun U hU hW => hPc U hU hW⟩
          rcases hlk with ⟨-, hw⟩ | ⟨-, hw⟩
          · obtain ⟨c1, c2, c3, c4, c5, c6, c7, c8, c9, c10⟩ := mkC (cm := cm) (mc := mN M1 - mN M) (ms := mS M1 - mS M) hd hmo hpar
            exact Gd_back h1 h2 g1 g2 hl hls hG (va_runS (Ts := []) (As := As.map (mv w)) (rest := rest.map (mv w)) ⟨hx, hb, hml, hown, fun _ hh => by cases hh⟩ hMet ⟨⟨c1, c2, c3, c4, c5, c6, c7, c8, c9, c10, hSt.1 _ (List.mem_of_getElem? hw) rfl args⟩, hSt.1 _ (List.mem_of_getElem? hsw) rfl args⟩ hpre rfl hlen hls.1 hst2 (lr hsum) (dg _ rfl) (room g1 g2 g3 g4))
          · obtain ⟨c1, c2, c3, c4, c5, c6, c7, c8, c9, c10⟩ := mkC (cm := cm) (mc := mN M1 - mN M) (ms := mS M1 - mS M) hd hmo hpar
            exact Gd_back h1 h2 g1 g2 hl hls hG (va_runSN (Ts := []) (As := As.map (mv w)) (rest := rest.map (mv w)) ⟨hx, hb, hml, hown, fun _ hh => by cases hh⟩ hMet ⟨⟨⟨c1, c2, c3, c4, c5, c6⟩, c7, c8, c9, c10, hSt.1 _ (List.mem_of_getElem? hw) rfl args⟩, hSt.1 _ (List.mem_of_getElem? hsw) rfl args, trivial⟩ hpre rfl hlen hls.1 hst2 (lr hsum) (dg _ rfl) (room g1 g2 g3 g4))
      next => cases h
    next cm na nest wi hres =>
      obtain ⟨x, y, r, rfl, h3⟩ := pII_s h
      clear h
      obtain ⟨hd0, h⟩ := if_n h3
      obtain ⟨hsum, h⟩ := if_s h
      have hc := cR_ok (asc_mem hres)
      unfold cOK at hc
      dsimp only at hc
      rcases hc with ⟨q, -⟩ | ⟨-, hw⟩ | ⟨q, -⟩ | ⟨q, -⟩ | ⟨q, -⟩ | ⟨q, -⟩
      · omega
      · obtain ⟨hb9, hG⟩ := KK _ _ _ _ h
        exact va_mmax hx hb (by rw [hml, hls.1]) hown (hSt.1 _ (List.mem_of_getElem? hw) rfl args) (hSt.1 _ (List.mem_of_getElem? mathW4.1) rfl args) (hSt.1 _ (List.mem_of_getElem? mathI) rfl args) (hSt.1 _ (List.mem_of_getElem? mathW4.2) rfl args) (by omega) (by rw [mv_sum]; omega) (by omega) (by omega) (dg _ rfl) (hG H locs ls hH h1 h2 hl hls)
      · omega
      · omega
      · omega
      · omega
    next cm na nest wi hres =>
      obtain ⟨x, y, r, rfl, h3⟩ := pII_s h
      clear h
      obtain ⟨hd0, h⟩ := if_n h3
      obtain ⟨hsum, h⟩ := if_s h
      have hc := cR_ok (asc_mem hres)
      unfold cOK at hc
      dsimp only at hc
      rcases hc with ⟨q, -⟩ | ⟨q, -⟩ | ⟨-, hw⟩ | ⟨q, -⟩ | ⟨q, -⟩ | ⟨q, -⟩
      · omega
      · omega
      · obtain ⟨hb9, hG⟩ := KK _ _ _ _ h
        exact va_mmin hx hb (by rw [hml, hls.1]) hown (hSt.1 _ (List.mem_of_getElem? hw) rfl args) (hSt.1 _ (List.mem_of_getElem? mathW5.1) rfl args) (hSt.1 _ (List.mem_of_getElem? mathI) rfl args) (hSt.1 _ (List.mem_of_getElem? mathW5.2) rfl args) (by omega) (by rw [mv_sum]; omega) (by omega) (by omega) (dg _ rfl) (hG H locs ls hH h1 h2 hl hls)
      · omega
      · omega
      · omega
    next cm na nest wi hres =>
      obtain ⟨x, r, rfl, h3⟩ := pI_s h
      clear h
      obtain ⟨hd0, h⟩ := if_n h3
      obtain ⟨hsum, h⟩ := if_s h
      have hc := cR_ok (asc_mem hres)
      unfold cOK at hc
      dsimp only at hc
      rcases hc with ⟨q, -⟩ | ⟨q, -⟩ | ⟨q, -⟩ | ⟨-, hw⟩ | ⟨q, -⟩ | ⟨q, -⟩
      · omega
      · omega
      · omega
      · obtain ⟨hb9, hG⟩ := KK _ _ _ _ h
        exact va_mabs hx hb (by rw [hml, hls.1]) hown (hSt.1 _ (List.mem_of_getElem? hw) rfl args) (hSt.1 _ (List.mem_of_getElem? mathW6.1) rfl args) (hSt.1 _ (List.mem_of_getElem? mathI) rfl args) (hSt.1 _ (List.mem_of_getElem? mathW6.2) rfl args) (by omega) (by rw [mv_sum]; omega) (by omega) (by omega) (dg _ rfl) (hG H locs ls hH h1 h2 hl hls)
      · omega
      · omega
    next cm na nest wi hres =>
      obtain ⟨x, y, r, rfl, h3⟩ := pLL_s h
      clear h
      obtain ⟨hd0, h⟩ := if_n h3
      obtain ⟨hsum, h⟩ := if_s h
      have hc := cR_ok (asc_mem hres)
      unfold cOK at hc
      dsimp only at hc
      rcases hc with ⟨q, -⟩ | ⟨q, -⟩ | ⟨q, -⟩ | ⟨q, -⟩ | ⟨-, hw⟩ | ⟨q, -⟩
      · omega
      · omega
      · omega
      · omega
      · obtain ⟨hb9, hG⟩ := KK _ _ _ _ h
        exact va_mmax_long hx hb (by rw [hml, hls.1]) hown (hSt.1 _ (List.mem_of_getElem? hw) rfl args) (hSt.1 _ (List.mem_of_getElem? mathW7.1) rfl args) (hSt.1 _ (List.mem_of_getElem? mathI) rfl args) (hSt.1 _ (List.mem_of_getElem? mathW7.2) rfl args) (by omega) (by rw [mv_sum]; omega) (by omega) (by omega) (dg _ rfl) (hG H locs ls hH h1 h2 hl hls)
      · omega
    next => cases h
  · split at h
    next cm na nest wi hres =>
      split at h
      next a As rest hpop =>
        obtain ⟨⟨hsum, hasum⟩, h⟩ := if_s h
        obtain ⟨m', d', r, M1, hd, hm, g1, g2, g3, g4, hMet, hG⟩ := CC _ _ _ _ h
        have hc := cR_ok (asc_mem hres)
        rw [getm hm] at hasum
        unfold cOK at hc
        dsimp only at hc
        rcases hc with ⟨q, -⟩ | ⟨q, -⟩ | ⟨q, -⟩ | ⟨q, -⟩ | ⟨q, -⟩ | ⟨-, ⟨-, hlaw⟩, hpar, hini, ⟨hs1, hs2⟩, hlk⟩
        · omega
        · omega
        · omega
        · omega
        · omega
        · rw [getm hm] at hlaw hpar hini hlk hs1 hs2
          obtain ⟨q, hmo⟩ := facts hm hlaw
          have hnn : m'.2.1.name = "<init>" := hini.mp rfl
          obtain ⟨mo1, mo2, ⟨mo3, mo4, mo5, mo6⟩, mo7, mo8⟩ := id hmo
          obtain ⟨xs, x1, x2, x3⟩ := popN_s _ _ _ _ _ hpop
          rw [List.append_nil] at x3
          have hst : st = As.reverse ++ .ref a :: rest := by
            have : xs = (Value.ref a :: As).reverse := by rw [x3, List.reverse_reverse]
            rw [x2, this, List.reverse_cons, List.append_assoc]
            rfl
          have hlen : (As.map (mv w)).length = na := by
            have : (Value.ref a :: As).length = na + 1 := by rw [x3, List.length_reverse]; exact x1
            rw [List.length_cons] at this
            rw [List.length_map]
            omega
          have hsw : lw_tbl[q.2.2.1]? = some (.instanceMethod m'.2.1) := by
            rcases mo8 with ⟨z, -⟩ | ⟨-, z1, z2⟩
            · have := hs1.mpr z; omega
            · exact z1
          have hret : m'.2.2.2.2.1 = none := hs2.2 rfl
          have hMet := hMet hlaw hasum
          have hst2 : st.map (mv w) = (As.map (mv w)).reverse ++ .ref (rho w a) :: rest.map (mv w) := by rw [hst, List.map_append, ← List.map_reverse]; rfl
          have hpre : PreS s H (PcM w (.ref a :: As) M) (.ref (rho w a) :: As.map (mv w)) := ⟨PcM_blind, fun U hU hW => hPc (As := .ref a :: As) U hU hW⟩
          obtain ⟨c1, c2, c3, c4, c5, c6, c7, c8, c9, c10⟩ := mkC (cm := cm) (mc := mN M1 - mN M) (ms := mS M1 - mS M) hd hmo hpar
          rw [hret] at c5 c6 c7 hMet
          rcases hlk with ⟨-, hw⟩ | ⟨-, hw⟩
          · exact Gd_back h1 h2 g1 g2 hl hls hG (va_runI (Ts := []) (As := As.map (mv w)) (rest := rest.map (mv w)) ⟨hx, hb, hml, hown, fun _ hh => by cases hh⟩ hMet ⟨⟨c1, c2, c3, c4, c5, c6, c7, c8, c9, c10, hSt.1 _ (List.mem_of_getElem? hw) rfl args⟩, hnn, hSt.1 _ (List.mem_of_getElem? hsw) rfl args⟩ hpre rfl hlen hls.1 hst2 (lr hsum) (dg _ rfl) (room g1 g2 g3 g4))
          · exact Gd_back h1 h2 g1 g2 hl hls hG (va_runIN (Ts := []) (As := As.map (mv w)) (rest := rest.map (mv w)) ⟨hx, hb, hml, hown, fun _ hh => by cases hh⟩ hMet ⟨⟨⟨c1, c2, c3, c4, c5, c6⟩, c7, c8, c9, c10, hSt.1 _ (List.mem_of_getElem? hw) rfl args⟩, hnn, hSt.1 _ (List.mem_of_getElem? hsw) rfl args⟩ hpre rfl hlen hls.1 hst2 (lr hsum) (dg _ rfl) (room g1 g2 g3 g4))
      next => cases h
    next cm na nest wi hres =>
      obtain ⟨a, r, rfl, h3⟩ := pR_s h
      clear h
      obtain ⟨hd0, h⟩ := if_n h3
      obtain ⟨hsum, h⟩ := if_s h
      have hc := cR_ok (asc_mem hres)
      unfold cOK at hc
      dsimp only at hc
      rcases hc with ⟨-, hw⟩ | ⟨q, -⟩ | ⟨q, -⟩ | ⟨q, -⟩ | ⟨q, -⟩ | ⟨q, -⟩
      · have hq := lr (st0 := []) hsum
        exact W.objInit hx hb hown (hSt.1 _ (List.mem_of_getElem? hw) rfl args) (hSt.1 _ (List.mem_of_getElem? objW.1) rfl args) (hSt.1 _ (List.mem_of_getElem? objW.2) rfl args) (g := F0 m pc ls (.ref (rho w a) :: r.map (mv w))) rfl (by rw [hml]; exact hls.1) rfl (dg _ rfl) (by omega) (Nat.le_trans (Nat.add_le_add_right hq 12) (by omega)) ((KK _ _ _ _ h).2 H locs ls hH h1 h2 hl hls)
      · omega
      · omega
      · omega
      · omega
      · omega
    next => cases h
  · cases h
end G
end
section
section Grow
variable (d o mxl : Nat) (rt : Option FieldType) (ini : Bool) (pc : Nat) (lv : LV) (st : List Value) (M : Mem)
def gK (M : Mem) : Nat → LV → List Value → Mem → Prop := fun _ _ _ M' => mN M ≤ mN M' ∧ mS M ≤ mS M'
def gC : Nat → List Value → List Value → Nat → Prop := fun _ _ _ _ => True
def gT : Option Value → Prop := fun _ => True
theorem gK_rf {a : Nat} {b : LV} {c : List Value} : gK M a b c M := ⟨Nat.le_refl _, Nat.le_refl _⟩
set_option maxHeartbeats 4000000 in
theorem stA_gr (i : Instr) : stA True (gK M) o mxl pc lv st M i := by
  unfold stA gI gL gR pI pL pR
  repeat' (first | exact trivial | exact gK_rf M | split | dsimp only)
set_option maxHeartbeats 4000000 in
theorem stB_gr (i : Instr) : stB True (gK M) pc lv st M i := by
  unfold stB pI pII pL pLL
  repeat' (first | exact trivial | exact gK_rf M | split | dsimp only)
theorem swt_gr {k : Int → Prop} {dflt : Int} (h : ∀ a, k a) : ∀ (offs : List Int) (lo x : Int), swt k dflt offs lo x := by
  intro offs
  induction offs with
  | nil => intro lo x; exact h _
  | cons a r ih =>
    intro lo x
    unfold swt
    split
    · exact h _
    · exact ih _ _
theorem swl_gr {k : Int → Prop} {dflt : Int} (h : ∀ a, k a) : ∀ (ps : List (Int × Int)) (x : Int), swl k dflt ps x := by
  intro ps
  induction ps with
  | nil => intro x; exact h _
  | cons a r ih =>
    intro x
    obtain ⟨a1, a2⟩ := a
    unfold swl
    split
    · exact h _
    · exact ih _
set_option maxHeartbeats 4000000 in
theorem stJ_gr (i : Instr) : stJ True (gK M) pc lv st M i := by
  unfold stJ pI pII jmp
  split
  · repeat' (first | exact trivial | exact gK_rf M | split | dsimp only)
  · repeat' (first | exact trivial | exact gK_rf M | split | dsimp only)
  · repeat' (first | exact trivial | exact gK_rf M | split | dsimp only)
  · split
    · split
      · refine swt_gr (fun a => ?_) _ _ _
        split
        · exact gK_rf M
        · exact trivial
      · exact trivial
    · exact trivial
  · split
    · split
      · refine swl_gr (fun a => ?_) _ _
        split
        · exact gK_rf M
        · exact trivial
      · exact trivial
    · exact trivial
  · exact trivial
theorem gK_fr {t len sl a : Nat} {b : LV} {c : List Value} : gK M a b c (fresh M t len sl) := ⟨Nat.le_succ _, Nat.le_add_right _ _⟩
theorem gK_gr {n k a : Nat} {b : LV} {c : List Value} : gK M a b c (grid M n k) := by
  obtain ⟨h1, h2, -⟩ := grid_f M n k
  exact ⟨by rw [h1]; omega, by rw [h2]; omega⟩
set_option maxHeartbeats 4000000 in
theorem stH_gr (i : Instr) : stH True (gK M) o ini pc lv st M i := by
  unfold stH pR pIR pLR pRR pIIR pRIR pI pII
  repeat' (first | exact trivial | exact gK_rf M | exact gK_fr M | exact gK_gr M | exact ⟨Nat.le_refl _, Nat.le_refl _⟩ | split | dsimp only)
set_option maxHeartbeats 4000000 in
theorem stV_gr (i : Instr) : stV True (gK M) gC d o pc lv st M i := by
  unfold stV pR pI pII pLL
  repeat' (first | exact trivial | exact gK_rf M | split | dsimp only)
set_option maxHeartbeats 4000000 in
theorem stT_gr (i : Instr) : stT True gT rt st i := by
  unfold stT
  repeat' (first | exact trivial | split)
theorem stC_gr (i : Instr) : stC True (gK M) gC gT d o mxl rt ini pc lv st M i := by
  unfold stC
  split
  · exact stA_gr o mxl pc lv st M i
  · exact stB_gr pc lv st M i
  · exact stJ_gr pc lv st M i
  · exact stH_gr o ini pc lv st M i
  · exact stV_gr d o pc lv st M i
  · exact stT_gr rt st i
end Grow
def sp (m : MT) (d pc : Nat) (lv : LV) (st : List Value) (M : Mem) : Option SR := match asc m.2.2.2.2.2.2.1 pc with
  | none => none
  | some il => stC none s0K s0C s0T d m.1 m.2.2.2.1 m.2.2.2.2.1 m.2.2.2.2.2.1 pc lv st M il.1
def cK (n d mi : Nat) (m : MT) (lv : LV) (M : Mem) : Nat → List Value → List Value → Nat → Option (Option Value × Mem) := fun cm As rest pc' => match d with
  | 0 => none
  | d' + 1 => match run n d' cm 0 (lv_args 0 As) [] M with
    | none => none
    | some (r, M1) => run n (d' + 1) mi pc' (rst m pc' lv) (r.toList ++ rest) M1
theorem run_eq {n d mi pc : Nat} {m : MT} {lv : LV} {st : List Value} {M : Mem} (hm : mt[mi]? = some m) : run (n + 1) d mi pc lv st M = elS none (fun pc' lv' st' M' => run n d mi pc' (rst m pc' lv') st' M') (cK n d mi m lv M) (fun v => some (v, M)) (sp m d pc lv st M) := by
  rw [run, hm]
  dsimp only
  unfold sp
  cases asc m.2.2.2.2.2.2.1 pc with
  | none => rfl
  | some il => exact stC_nat none (fun pc' lv' st' M' => run n d mi pc' (rst m pc' lv') st' M') (cK n d mi m lv M) (fun v => some (v, M)) d m.1 m.2.2.2.1 m.2.2.2.2.1 m.2.2.2.2.2.1 pc lv st M il.1
theorem sp_gr {m : MT} {d pc : Nat} {lv : LV} {st : List Value} {M : Mem} {pc' : Nat} {lv' : LV} {st' : List Value} {M' : Mem} (h : sp m d pc lv st M = some (.inl (pc', lv', st', M'))) : mN M ≤ mN M' ∧ mS M ≤ mS M' := by
  unfold sp at h
  split at h
  · cases h
  · next il hil =>
    have := stC_gr d m.1 m.2.2.2.1 m.2.2.2.2.1 m.2.2.2.2.2.1 pc lv st M il.1
    rw [stC_nat, h] at this
    exact this
theorem run_m {n d mi pc : Nat} {lv : LV} {st : List Value} {M : Mem} {r : Option Value × Mem} (h : run n d mi pc lv st M = some r) : ∃ k m, n = k + 1 ∧ mt[mi]? = some m := by
  cases n with
  | zero => cases h
  | succ k =>
    cases hm : mt[mi]? with
    | none => rw [run, hm] at h; cases h
    | some m => exact ⟨k, m, rfl, rfl⟩
theorem run_gr : ∀ (n d mi pc : Nat) (lv : LV) (st : List Value) (M : Mem) (v : Option Value) (M' : Mem), run n d mi pc lv st M = some (v, M') → mN M ≤ mN M' ∧ mS M ≤ mS M' := by
  intro n
  induction n with
  | zero => intro d mi pc lv st M v M' h; cases h
  | succ n ih =>
    intro d mi pc lv st M v M' h
    obtain ⟨k, m, -, hm⟩ := run_m h
    rw [run_eq hm] at h
    unfold elS at h
    split at h
    · cases h
    · next hs =>
      have h1 := sp_gr hs
      have h2 := ih _ _ _ _ _ _ _ _ h
      omega
    · unfold cK at h
      split at h
      · cases h
      · split at h
        · cases h
        · next hr =>
          have h1 := ih _ _ _ _ _ _ _ _ hr
          have h2 := ih _ _ _ _ _ _ _ _ h
          omega
    · cases h
      omega
/-- the end of a method, with what the run says -/
def HT (w : WP) (p : Program) (l : Launch) (e : Env) (R : Room) (s : State) (m : MethodId) (args : Array Value) (below : List Frame) (meth : Method) (c : Code) (cc : ByteArray) (rt : Option FieldType) (n0 s0 : Nat) (Q : State → Prop) (v : Option Value) (M' : Mem) : Prop :=
  ∀ (i : Instr) (pc : Nat) (st : List Value) (ls : Array Slot) (H : Heap) (locs : List Loc), decode cc pc = .ok (i, 1) → stT none (fun v => some (v, M')) rt st i = some (v, M') → HR w M' H → (∀ q ∈ locs, wB w ≤ q.base) → W p l e R s m args below meth c H locs (mN M' - n0) (mS M' - s0) Q (F0 m pc ls (st.map (mv w)))
def BOK (w : WP) (l : Launch) (n : Nat) : Prop := ∀ (d mi : Nat) (mm : MT) (pc : Nat) (lv : LV) (st : List Value) (M : Mem) (v : Option Value) (M' : Mem), mt[mi]? = some mm → run n d mi pc lv st M = some (v, M') →
  ∀ (p : Program) (e : Env) (R : Room) (s : State) (m : MethodId) (args : Array Value) (below : List Frame) (meth : Method) (c : Code) (Q : State → Prop) (n0 s0 : Nat), Cx w p R s m args meth c mm.2.2.1 mm.1 mm.2.2.2.1 n0 s0 (mN M') (mS M') mm.2.2.2.2.2.1 → d ≤ R.frames → 64 * d ≤ R.locals → HT w p l e R s m args below meth c mm.2.2.1 mm.2.2.2.2.1 n0 s0 Q v M' →
    Gd w p l e R s m args below meth c mm.2.2.2.1 n0 s0 Q pc lv st M
theorem lv_args_mv (w : WP) : ∀ (As : List Value) (i : Nat), lv_args i (As.map (mv w)) = mvl w (lv_args i As) := by
  intro As
  induction As with
  | nil => intro i; rfl
  | cons v r ih =>
    intro i
    show (i, mv w v) :: lv_args (if (mv w v).category = 2 then i + 2 else i + 1) (r.map (mv w)) = (i, mv w v) :: mvl w (lv_args (if v.category = 2 then i + 2 else i + 1) r)
    rw [mv_cat, ih]
theorem sl_len (As : List Value) : (lg_sl As).length = (As.map fun v => v.category).sum := by
  induction As with
  | nil => rfl
  | cons v r ih =>
    have h1 : lg_sl (v :: r) = (if v.category = 2 then [.val v, .second] else [.val v]) ++ lg_sl r := rfl
    rw [h1, List.length_append, ih, List.map_cons, List.sum_cons]
    rcases lv_cat v with h | h <;> rw [h] <;> rfl
set_option maxHeartbeats 4000000 in
theorem met_ok {w : WP} {l : Launch} {n : Nat} (hB : BOK w l n) (hwz : (wH w).size = wB w) {d cm : Nat} {mm : MT} {As : List Value} {M : Mem} {v : Option Value} {M1 : Mem} (hm : mt[cm]? = some mm) (hn : mm.2.1.name ≠ "law") (hr : run n d cm 0 (lv_args 0 As) [] M = some (v, M1)) (hsum : (As.map fun v => v.category).sum ≤ mm.2.2.2.1) :
    Met l mm.2.1 [.code mm.2.1 mm.2.2.1 mm.2.2.2.1 mm.2.2.2.2.1] (Rm d (mN M1 - mN M) (mS M1 - mS M)) (PcM w As M) (QcM w v M1) (mN M1 - mN M) (mS M1 - mS M) (Aw w) := by
  have hmo : ∃ q, mOK mm q := by
    rcases mOK_all mm (List.mem_of_getElem? hm) with rfl | h
    · exact absurd rfl hn
    · exact h
  obtain ⟨q, mo1, mo2, ⟨mo3, mo4, mo5, mo6⟩, mo7, mo8⟩ := hmo
  refine Met.ofW (cc := mm.2.2.1) (maxL := mm.2.2.2.1) (ret := mm.2.2.2.2.1) mo4 rfl ?_
  intro p e s m args below meth c s₁ B hml hv
  obtain ⟨rfl, hHR, hSt⟩ := hv
  have hx := B.exec
  have hb := B.bytes
  have hrt := B.returns
  have hlocks := B.notSynchronized
  have hown : s.vm.findClass (nm mm.1) = some m.cls := by rw [← mo3]; exact findClass_of_methodNamed B.named
  have cx : Cx w p (headSpec [.code mm.2.1 mm.2.2.1 mm.2.2.2.1 mm.2.2.2.2.1] (Rm d (mN M1 - mN M) (mS M1 - mS M))).room s m (As.map (mv w)).toArray meth c mm.2.2.1 mm.1 mm.2.2.2.1 (mN M) (mS M) (mN M1) (mS M1) mm.2.2.2.2.2.1 :=
    ⟨hx, hb, hml, hown, hSt, fun q hq => hHR.2.1 q hq, ⟨hHR.1, hwz⟩, Nat.le_refl _, Nat.le_refl _, fun hi => by rw [(name_of_methodNamed B.named B.method).1]; exact mo5 hi⟩
  have hl := lv_entry (As.map (mv w)) (n := mm.2.2.2.1) (by rw [sl_len, mv_sum]; exact hsum)
  rw [lg_entry_eq]
  rw [lv_args_mv] at hl
  have hG := hB d cm mm 0 (lv_args 0 As) [] M v M1 hm hr p e _ s m _ below meth c (MQ below (QcM w v M1) (As.map (mv w)).toArray s (mN M1 - mN M) (mS M1 - mS M) (Aw w)) (mN M) (mS M) cx (Nat.le_refl _) (Nat.le_refl _) ?_
  · have := hG s.heap [] _ hHR (Nat.le_refl _) (Nat.le_refl _) (fun q h => by cases h) hl
    rw [Nat.sub_self, Nat.sub_self] at this
    exact this
  · intro i pc st ls H locs dg ht hH hlc
    unfold stT at ht
    split at ht
    · split at ht
      · split at ht
        · next hrr =>
          cases ht
          exact W.iret hx hb (by rw [hrt, hrr]) (fun t ht hW => ⟨rfl, by rw [ht]; exact hH⟩) hlc dg
        · next hrr =>
          obtain ⟨hv, ht⟩ := if_s ht
          cases ht
          exact W.zret hx hb (by rw [hrt, hrr]) (by rcases hv with rfl | rfl <;> rfl) (fun t ht hW => ⟨rfl, by rw [ht]; exact hH⟩) hlc dg
        · next hrr =>
          obtain ⟨hv, ht⟩ := if_s ht
          cases ht
          exact W.zret hx hb (by rw [hrt, hrr]) hv (fun t ht hW => ⟨rfl, by rw [ht]; exact hH⟩) hlc dg
        · cases ht
      · cases ht
    · split at ht
      · split at ht
        · next hrr =>
          cases ht
          exact W.lret hx hb (by rw [hrt, hrr]) (fun t ht hW => ⟨rfl, by rw [ht]; exact hH⟩) hlc dg
        · cases ht
      · cases ht
    · split at ht
      · split at ht
        · next hrr =>
          cases ht
          exact W.aret (v := .ref _) hx hb (by rw [hrt, hrr]) (Or.inl ⟨_, rfl⟩) (Or.inr ⟨_, rfl⟩) (fun t ht hW => ⟨rfl, by rw [ht]; exact hH⟩) hlc dg
        · cases ht
      · cases ht
    · split at ht
      · split at ht
        · next hrr =>
          cases ht
          exact W.vret hx hb (by rw [hrt, hrr]) (fun t ht hW => ⟨rfl, by rw [ht]; exact hH⟩) hlc dg
        · cases ht
      · cases ht
    · cases ht
end
section
theorem rst_sub {m : MT} {pc : Nat} {lv : LV} : ∀ q ∈ rst m pc lv, q ∈ lv := by
  intro q hq
  unfold rst at hq
  split at hq
  · exact hq
  · exact (List.mem_filter.mp hq).1
theorem lenT {i : Instr} (h : ∀ rt st M', stT (none : Option (Option Value × Mem)) (fun v => some (v, M')) rt st i = none) : True := trivial
theorem stT_len {rt : Option FieldType} {st : List Value} {i : Instr} {T : Option Value → Option (Option Value × Mem)} {r : Option Value × Mem} (h : stT none T rt st i = some r) : lenI i = some 1 := by
  unfold stT at h
  split at h <;> first | rfl | cases h
theorem stT_mem {rt : Option FieldType} {st : List Value} {i : Instr} {M : Mem} {v : Option Value} {M' : Mem} (h : stT none (fun v => some (v, M)) rt st i = some (v, M')) : M' = M := by
  have h2 := stT_nat (α := Option (Option Value × Mem)) none (fun _ _ _ _ => none) (fun _ _ _ _ => none) (fun v => some (v, M)) rt st i
  rw [h] at h2
  unfold elS at h2
  split at h2
  · cases h2
  · cases h2
  · cases h2
  · cases h2
    rfl
set_option maxHeartbeats 8000000 in
theorem bok {w : WP} (l : Launch) (hwz : (wH w).size = wB w) : ∀ n, BOK w l n := by
  intro n
  induction n with
  | zero => intro d mi mm pc lv st M v M' hm h; cases h
  | succ n ih =>
    intro d mi mm pc lv st M v M' hm h p e R s m args below meth c Q n0 s0 cx hR1 hR2 hT
    have hgr := run_gr _ _ _ _ _ _ _ _ _ h
    rw [run, hm] at h
    dsimp only at h
    cases hil : asc mm.2.2.2.2.2.2.1 pc with
    | none => rw [hil] at h; cases h
    | some il =>
      rw [hil] at h
      dsimp only at h
      obtain ⟨kd, kl⟩ := mt_k mm (List.mem_of_getElem? hm)
      have hdec := kd _ (asc_mem hil)
      have hlen := kl _ (asc_mem hil)
      dsimp only at hdec
      have dg : ∀ k, lenI il.1 = some k → decode mm.2.2.1 pc = .ok (il.1, k) := by
        intro k hk
        unfold lOK at hlen
        dsimp only at hlen
        rw [hk] at hlen
        have : k = il.2 := by simpa using hlen
        rw [this]
        exact hdec
      have KK : ∀ pc' lv' st' M9, run n d mi pc' (rst mm pc' lv') st' M9 = some (v, M') → (mN M9 ≤ mN M' ∧ mS M9 ≤ mS M') ∧ Gd w p l e R s m args below meth c mm.2.2.2.1 n0 s0 Q pc' lv' st' M9 := by
        intro pc' lv' st' M9 h9
        exact ⟨run_gr _ _ _ _ _ _ _ _ _ h9, Gd_less rst_sub (ih d mi mm pc' _ st' M9 v M' hm h9 p e R s m args below meth c Q n0 s0 cx hR1 hR2 hT)⟩
      have CC : ∀ cm As rest pc', (match d with
            | 0 => none
            | d' + 1 => match run n d' cm 0 (lv_args 0 As) [] M with
              | none => none
              | some (r, M1) => run n (d' + 1) mi pc' (rst mm pc' lv) (r.toList ++ rest) M1) = some (v, M') → ∃ m' d' r M1, d = d' + 1 ∧ mt[cm]? = some m' ∧ mN M ≤ mN M1 ∧ mS M ≤ mS M1 ∧ mN M1 ≤ mN M' ∧ mS M1 ≤ mS M' ∧ (m'.2.1.name ≠ "law" → (As.map fun v => v.category).sum ≤ m'.2.2.2.1 → Met l m'.2.1 [.code m'.2.1 m'.2.2.1 m'.2.2.2.1 m'.2.2.2.2.1] (Rm d' (mN M1 - mN M) (mS M1 - mS M)) (PcM w As M) (QcM w r M1) (mN M1 - mN M) (mS M1 - mS M) (Aw w)) ∧ Gd w p l e R s m args below meth c mm.2.2.2.1 n0 s0 Q pc' lv (r.toList ++ rest) M1 := by
        intro cm As rest pc' hC
        split at hC
        · cases hC
        · next d' =>
          split at hC
          · cases hC
          · next r M1 hr =>
            obtain ⟨k, m', -, hm'⟩ := run_m hr
            have g1 := run_gr _ _ _ _ _ _ _ _ _ hr
            have g2 := run_gr _ _ _ _ _ _ _ _ _ hC
            exact ⟨m', d', r, M1, rfl, hm', g1.1, g1.2, g2.1, g2.2, fun hn hs => met_ok ih hwz hm' hn hr hs, Gd_less rst_sub (ih (d' + 1) mi mm pc' _ _ M1 v M' hm hC p e R s m args below meth c Q n0 s0 cx hR1 hR2 hT)⟩
      unfold stC at h
      split at h
      · exact stA_ok cx dg KK h
      · exact stB_ok cx dg KK h
      · exact stJ_ok cx ⟨il.2, hdec, fun j hj => by have := dg j hj; rw [hdec] at this; cases this; rfl⟩ KK h
      · have hh := h
        unfold stH at hh
        split at hh
        · next n1 hi => rw [hi] at h dg; exact st_getfield cx (dg _ rfl) KK h
        · next n1 hi => rw [hi] at h dg; exact st_putfield cx (dg _ rfl) KK h
        · next n1 hi => exact st_arr cx dg (Or.inr (Or.inr (Or.inr (Or.inr (Or.inr ⟨_, hi⟩))))) KK h
        · next hi => exact st_arr cx dg (Or.inl hi) KK h
        · next hi => exact st_arr cx dg (Or.inr (Or.inl hi)) KK h
        · next hi => exact st_arr cx dg (Or.inr (Or.inr (Or.inl hi))) KK h
        · next hi => exact st_arr cx dg (Or.inr (Or.inr (Or.inr (Or.inl hi)))) KK h
        · next hi => exact st_arr cx dg (Or.inr (Or.inr (Or.inr (Or.inr (Or.inl hi))))) KK h
        · next hi => exact st_arw cx dg (Or.inl hi) KK h
        · next hi => exact st_arw cx dg (Or.inr (Or.inl hi)) KK h
        · next hi => exact st_arw cx dg (Or.inr (Or.inr (Or.inl hi))) KK h
        · next hi => exact st_arw cx dg (Or.inr (Or.inr (Or.inr hi))) KK h
        · next n1 hi => exact st_new cx dg (Or.inl ⟨_, hi⟩) KK h
        · next n1 hi => exact st_new cx dg (Or.inr (Or.inl ⟨_, hi⟩)) KK h
        · next n1 hi => exact st_new cx dg (Or.inr (Or.inr ⟨_, hi⟩)) KK h
        · next n1 n2 hi => rw [hi] at h dg; exact st_mna cx (dg _ rfl) KK h
        · cases hh
      · exact stV_ok cx dg hR1 hR2 KK CC h
      · have hMM := stT_mem h
        subst hMM
        intro H locs ls hH h1 h2 hl hls
        exact hT il.1 pc st ls H locs (dg _ (stT_len h)) h hH hl
end
section
/-! ===== what a run comes to, as a condition on what is wanted of its end ===== -/
def Wn (d mi pc : Nat) (lv : LV) (st : List Value) (M : Mem) (Q : Option Value → Mem → Prop) : Prop := ∃ n v M', run n d mi pc lv st M = some (v, M') ∧ Q v M'
theorem run_up1 : ∀ (n d mi pc : Nat) (lv : LV) (st : List Value) (M : Mem) (r : Option Value × Mem), run n d mi pc lv st M = some r → run (n + 1) d mi pc lv st M = some r := by
  intro n
  induction n with
  | zero => intro d mi pc lv st M r h; cases h
  | succ n ih =>
    intro d mi pc lv st M r h
    obtain ⟨k, m, -, hm⟩ := run_m h
    rw [run_eq hm] at h ⊢
    generalize sp m d pc lv st M = x at h ⊢
    unfold elS at h ⊢
    match x, h with
    | some (.inl (a, b, c, d)), h => exact ih _ _ _ _ _ _ _ h
    | some (.inr (.inl (cm, As, rest, pc'))), h =>
      dsimp only at h ⊢
      unfold cK at h ⊢
      match d, h with
      | d' + 1, h =>
        dsimp only at h ⊢
        cases hr : run n d' cm 0 (lv_args 0 As) [] M with
        | none => rw [hr] at h; cases h
        | some q =>
          rw [hr] at h
          rw [ih _ _ _ _ _ _ _ hr]
          exact ih _ _ _ _ _ _ _ h
    | some (.inr (.inr v)), h => exact h
theorem run_up {n k d mi pc : Nat} {lv : LV} {st : List Value} {M : Mem} {r : Option Value × Mem} (hk : n ≤ k) (h : run n d mi pc lv st M = some r) : run k d mi pc lv st M = some r := by
  obtain ⟨j, rfl⟩ := Nat.le.dest hk
  clear hk
  induction j with
  | zero => exact h
  | succ j ih => exact run_up1 _ _ _ _ _ _ _ _ ih
theorem Wn_eq {d mi pc : Nat} {m : MT} {lv : LV} {st : List Value} {M : Mem} {Q : Option Value → Mem → Prop} (hm : mt[mi]? = some m) : Wn d mi pc lv st M Q ↔ elS False (fun pc' lv' st' M' => Wn d mi pc' (rst m pc' lv') st' M' Q) (fun cm As rest pc' => ∃ d', d = d' + 1 ∧ Wn d' cm 0 (lv_args 0 As) [] M (fun r M1 => Wn d mi pc' (rst m pc' lv) (r.toList ++ rest) M1 Q)) (fun v => Q v M) (sp m d pc lv st M) := by
  constructor
  · rintro ⟨n, v, M', h, hq⟩
    obtain ⟨k, -, rfl, -⟩ := run_m h
    rw [run_eq hm] at h
    generalize sp m d pc lv st M = x at h ⊢
    unfold elS at h ⊢
    match x, h with
    | some (.inl (a, b, c, d)), h => exact ⟨_, _, _, h, hq⟩
    | some (.inr (.inl (cm, As, rest, pc'))), h =>
      dsimp only at h ⊢
      unfold cK at h
      match d, h with
      | d' + 1, h =>
        dsimp only at h ⊢
        cases hr : run k d' cm 0 (lv_args 0 As) [] M with
        | none => rw [hr] at h; cases h
        | some q =>
          obtain ⟨r, M1⟩ := q
          rw [hr] at h
          exact ⟨d', rfl, _, _, _, hr, _, _, _, h, hq⟩
    | some (.inr (.inr v)), h =>
      cases h
      exact hq
  · intro h
    cases hx : sp m d pc lv st M with
    | none => rw [hx] at h; cases h
    | some y =>
      rw [hx] at h
      unfold elS at h
      match y, hx, h with
      | .inl (a, b, c, d1), hx, h =>
        obtain ⟨n, v, M', h1, h2⟩ := h
        exact ⟨n + 1, v, M', by rw [run_eq hm, hx]; exact h1, h2⟩
      | .inr (.inl (cm, As, rest, pc')), hx, h =>
        obtain ⟨d', rfl, n, r, M1, h1, n2, v, M', h2, h3⟩ := h
        refine ⟨max n n2 + 1, v, M', ?_, h3⟩
        rw [run_eq hm, hx]
        show cK (max n n2) (d' + 1) mi m lv M cm As rest pc' = _
        unfold cK
        dsimp only
        rw [run_up (Nat.le_max_left n n2) h1]
        exact run_up (Nat.le_max_right n n2) h2
      | .inr (.inr v), hx, h =>
        exact ⟨1, v, M, by rw [run_eq hm, hx]; rfl, h⟩
theorem Wn_mono {d mi pc : Nat} {lv : LV} {st : List Value} {M : Mem} {Q Q' : Option Value → Mem → Prop} (h : ∀ v M', Q v M' → Q' v M') (hw : Wn d mi pc lv st M Q) : Wn d mi pc lv st M Q' := by
  obtain ⟨n, v, M', h1, h2⟩ := hw
  exact ⟨n, v, M', h1, h _ _ h2⟩
def shp (rt : Option FieldType) (v : Option Value) : Prop := match rt with
  | none => v = none
  | some .long => ∃ x, v = some (.long x)
  | some (.object _) => ∃ x, v = some (.ref x)
  | some _ => ∃ x, v = some (.int x)
theorem stT_sh (rt : Option FieldType) (st : List Value) (i : Instr) : stT True (shp rt) rt st i := by
  unfold stT
  split
  · split
    · split
      · exact ⟨_, rfl⟩
      · split
        · exact ⟨_, rfl⟩
        · exact trivial
      · split
        · exact ⟨_, rfl⟩
        · exact trivial
      · exact trivial
    · exact trivial
  · split
    · split
      · exact ⟨_, rfl⟩
      · exact trivial
    · exact trivial
  · split
    · split
      · exact ⟨_, rfl⟩
      · exact trivial
    · exact trivial
  · split
    · split
      · rfl
      · exact trivial
    · exact trivial
  · exact trivial
section Sh
variable (d o mxl : Nat) (rt : Option FieldType) (ini : Bool) (pc : Nat) (lv : LV) (st : List Value) (M : Mem)
theorem el_tr {K : Nat → LV → List Value → Mem → Prop} {C : Nat → List Value → List Value → Nat → Prop} {T : Option Value → Prop} (hK : ∀ a b c d, K a b c d) (hC : ∀ a b c d, C a b c d) (hT : ∀ v, T v) (r : Option SR) : elS True K C T r := by
  unfold elS
  split
  · exact trivial
  · exact hK _ _ _ _
  · exact hC _ _ _ _
  · exact hT _
theorem sp_sh {m : MT} {d pc : Nat} {lv : LV} {st : List Value} {M : Mem} {v : Option Value} (h : sp m d pc lv st M = some (.inr (.inr v))) : shp m.2.2.2.2.1 v := by
  unfold sp at h
  split at h
  · cases h
  · next il hil =>
    have key : stC True (fun _ _ _ _ => True) (fun _ _ _ _ => True) (shp m.2.2.2.2.1) d m.1 m.2.2.2.1 m.2.2.2.2.1 m.2.2.2.2.2.1 pc lv st M il.1 := by
      unfold stC
      split
      · rw [stA_nat _ _ (fun _ _ _ _ => True) (fun _ => True)]; exact el_tr (fun _ _ _ _ => trivial) (fun _ _ _ _ => trivial) (fun _ => trivial) _
      · rw [stB_nat _ _ (fun _ _ _ _ => True) (fun _ => True)]; exact el_tr (fun _ _ _ _ => trivial) (fun _ _ _ _ => trivial) (fun _ => trivial) _
      · rw [stJ_nat _ _ (fun _ _ _ _ => True) (fun _ => True)]; exact el_tr (fun _ _ _ _ => trivial) (fun _ _ _ _ => trivial) (fun _ => trivial) _
      · rw [stH_nat _ _ (fun _ _ _ _ => True) (fun _ => True)]; exact el_tr (fun _ _ _ _ => trivial) (fun _ _ _ _ => trivial) (fun _ => trivial) _
      · rw [stV_nat _ _ _ (fun _ => True)]; exact el_tr (fun _ _ _ _ => trivial) (fun _ _ _ _ => trivial) (fun _ => trivial) _
      · exact stT_sh _ _ _
    rw [stC_nat, h] at key
    exact key
end Sh
theorem run_sh : ∀ (n d mi pc : Nat) (m : MT) (lv : LV) (st : List Value) (M : Mem) (v : Option Value) (M' : Mem), mt[mi]? = some m → run n d mi pc lv st M = some (v, M') → shp m.2.2.2.2.1 v := by
  intro n
  induction n with
  | zero => intro d mi pc m lv st M v M' hm h; cases h
  | succ n ih =>
    intro d mi pc m lv st M v M' hm h
    rw [run_eq hm] at h
    unfold elS at h
    split at h
    · cases h
    · exact ih _ _ _ _ _ _ _ _ _ hm h
    · unfold cK at h
      split at h
      · cases h
      · split at h
        · cases h
        · exact ih _ _ _ _ _ _ _ _ _ hm h
    · next hs =>
      cases h
      exact sp_sh hs
def QI (Q : Int32 → Mem → Prop) : Option Value → Mem → Prop := fun r M1 => match r with
  | some (.int x) => Q x M1
  | _ => False
def QL (Q : Int64 → Mem → Prop) : Option Value → Mem → Prop := fun r M1 => match r with
  | some (.long x) => Q x M1
  | _ => False
def QA (Q : Nat → Mem → Prop) : Option Value → Mem → Prop := fun r M1 => match r with
  | some (.ref x) => Q x M1
  | _ => False
def QV (Q : Mem → Prop) : Option Value → Mem → Prop := fun r M1 => match r with
  | none => Q M1
  | _ => False
def WI (d mi : Nat) (As : List Value) (M : Mem) (Q : Int32 → Mem → Prop) : Prop := Wn d mi 0 (lv_args 0 As) [] M (QI Q)
def WL (d mi : Nat) (As : List Value) (M : Mem) (Q : Int64 → Mem → Prop) : Prop := Wn d mi 0 (lv_args 0 As) [] M (QL Q)
def WA (d mi : Nat) (As : List Value) (M : Mem) (Q : Nat → Mem → Prop) : Prop := Wn d mi 0 (lv_args 0 As) [] M (QA Q)
def WV (d mi : Nat) (As : List Value) (M : Mem) (Q : Mem → Prop) : Prop := Wn d mi 0 (lv_args 0 As) [] M (QV Q)
theorem QI_s {Q : Int32 → Mem → Prop} {r : Option Value} {M : Mem} (h : QI Q r M) : ∃ x, r = some (.int x) ∧ Q x M := by
  unfold QI at h
  split at h
  · exact ⟨_, rfl, h⟩
  · cases h
theorem QL_s {Q : Int64 → Mem → Prop} {r : Option Value} {M : Mem} (h : QL Q r M) : ∃ x, r = some (.long x) ∧ Q x M := by
  unfold QL at h
  split at h
  · exact ⟨_, rfl, h⟩
  · cases h
theorem QA_s {Q : Nat → Mem → Prop} {r : Option Value} {M : Mem} (h : QA Q r M) : ∃ x, r = some (.ref x) ∧ Q x M := by
  unfold QA at h
  split at h
  · exact ⟨_, rfl, h⟩
  · cases h
theorem QV_s {Q : Mem → Prop} {r : Option Value} {M : Mem} (h : QV Q r M) : r = none ∧ Q M := by
  unfold QV at h
  split at h
  · exact ⟨rfl, h⟩
  · cases h
def CW (rt : Option FieldType) (d cm : Nat) (As : List Value) (M : Mem) (K : List Value → Mem → Prop) : Prop := match rt with
  | none => WV d cm As M (fun M1 => K [] M1)
  | some .long => WL d cm As M (fun x M1 => K [.long x] M1)
  | some (.object _) => WA d cm As M (fun x M1 => K [.ref x] M1)
  | some _ => WI d cm As M (fun x M1 => K [.int x] M1)
def rtOf (cm : Nat) : Option FieldType := (mt.getD cm m_LAW_law).2.2.2.2.1
theorem CW_iff {d cm : Nat} {As : List Value} {M : Mem} {K : List Value → Mem → Prop} : CW (rtOf cm) d cm As M K ↔ Wn d cm 0 (lv_args 0 As) [] M (fun r M1 => K r.toList M1) := by
  constructor
  · intro h
    unfold CW at h
    split at h
    · exact Wn_mono (fun v M' q => by obtain ⟨rfl, q⟩ := QV_s q; exact q) h
    · exact Wn_mono (fun v M' q => by obtain ⟨x, rfl, q⟩ := QL_s q; exact q) h
    · exact Wn_mono (fun v M' q => by obtain ⟨x, rfl, q⟩ := QA_s q; exact q) h
    · exact Wn_mono (fun v M' q => by obtain ⟨x, rfl, q⟩ := QI_s q; exact q) h
  · rintro ⟨n, v, M', h, q⟩
    obtain ⟨k, m, -, hm⟩ := run_m h
    have hs := run_sh _ _ _ _ _ _ _ _ _ _ hm h
    have e : rtOf cm = m.2.2.2.2.1 := by unfold rtOf; rw [List.getD_eq_getElem?_getD, hm]; rfl
    rw [← e] at hs
    unfold CW
    unfold shp at hs
    split
    · next hr => rw [hr] at hs; rw [hs] at h q; exact ⟨n, none, M', h, q⟩
    · next hr => rw [hr] at hs; obtain ⟨x, rfl⟩ := hs; exact ⟨n, _, M', h, q⟩
    · next hr => rw [hr] at hs; obtain ⟨x, rfl⟩ := hs; exact ⟨n, _, M', h, q⟩
    · next h1 h2 hr =>
      have : ∃ x, v = some (.int x) := by
        rw [hr] at hs
        split at hs
        · next hh => cases hh
        · next hh => cases hh; exact absurd rfl h1
        · next hh => cases hh; exact absurd rfl (h2 _)
        · exact hs
      obtain ⟨x, rfl⟩ := this
      exact ⟨n, _, M', h, q⟩
/-- some steps at once, as far as calls and heads of loops -/
def sy : Nat → Nat → Nat → Nat → LV → List Value → Mem → (Option Value → Mem → Prop) → Prop
  | 0, d, mi, pc, lv, st, M, Q => Wn d mi pc lv st M Q
  | n + 1, d, mi, pc, lv, st, M, Q => match mt[mi]? with
    | none => False
    | some m => match asc m.2.2.2.2.2.2.1 pc with
      | none => False
      | some il => stC False (fun pc' lv' st' M' => match asc m.2.2.2.2.2.2.2 pc' with
            | some ks => Wn d mi pc' (lvK ks lv') st' M' Q
            | none => sy n d mi pc' lv' st' M' Q)
          (fun cm As rest pc' => match d with
            | 0 => False
            | d' + 1 => CW (rtOf cm) d' cm As M (fun vs M1 => sy n (d' + 1) mi pc' (rst m pc' lv) (vs ++ rest) M1 Q))
          (fun v => Q v M) d m.1 m.2.2.2.1 m.2.2.2.2.1 m.2.2.2.2.2.1 pc lv st M il.1
theorem el_iff {K K' : Nat → LV → List Value → Mem → Prop} {C C' : Nat → List Value → List Value → Nat → Prop} {T : Option Value → Prop} (hK : ∀ a b c d, K a b c d ↔ K' a b c d) (hC : ∀ a b c d, C a b c d ↔ C' a b c d) (r : Option SR) : elS False K C T r ↔ elS False K' C' T r := by
  unfold elS
  split
  · exact Iff.rfl
  · exact hK _ _ _ _
  · exact hC _ _ _ _
  · exact Iff.rfl
theorem sy_iff : ∀ (n d mi pc : Nat) (lv : LV) (st : List Value) (M : Mem) (Q : Option Value → Mem → Prop), Wn d mi pc lv st M Q ↔ sy n d mi pc lv st M Q := by
  intro n
  induction n with
  | zero => intro d mi pc lv st M Q; exact Iff.rfl
  | succ n ih =>
    intro d mi pc lv st M Q
    rw [sy]
    cases hm : mt[mi]? with
    | none =>
      constructor
      · rintro ⟨k, v, M', h, -⟩
        obtain ⟨_, m, -, hm2⟩ := run_m h
        rw [hm] at hm2
        cases hm2
      · intro h; cases h
    | some m =>
      rw [Wn_eq hm]
      dsimp only
      unfold sp
      cases hil : asc m.2.2.2.2.2.2.1 pc with
      | none => exact Iff.rfl
      | some il =>
        dsimp only
        rw [stC_nat (α := Prop)]
        refine el_iff (fun a b c e => ?_) (fun a b c e => ?_) _
        · unfold rst
          cases asc m.2.2.2.2.2.2.2 a with
          | none => exact ih _ _ _ _ _ _ _
          | some ks => exact Iff.rfl
        · cases d with
          | zero =>
            constructor
            · rintro ⟨d', h, -⟩; omega
            · intro h; cases h
          | succ d' =>
            dsimp only
            rw [CW_iff]
            constructor
            · rintro ⟨d2, h2, h⟩
              have : d' = d2 := by omega
              subst this
              exact Wn_mono (fun v M' q => (ih _ _ _ _ _ _ _).mp q) h
            · intro h
              exact ⟨d', rfl, Wn_mono (fun v M' q => (ih _ _ _ _ _ _ _).mpr q) h⟩
end
section
set_option maxRecDepth 100000 in
theorem E_Camp_has (d : Nat) (t : Nat) (p1 : Int32) (M : Mem) (Q : Int32 → Mem → Prop) : WI (d + 1) i_Camp_has [.ref t, .int p1] M Q ↔ (if mC M t = 0 then (WI d i_KN_isWithin [.int p1, .int (0 : Int32), .int ((mI M t 2) - (1 : Int32))] M (fun x2 M1 => (if x2 = 0 ∨ x2 = 1 then Q x2 M1 else False))) else False) :=
  sy_iff 400 _ _ _ _ _ _ _
set_option maxRecDepth 100000 in
theorem E_Camp_nameOf (d : Nat) (t : Nat) (p1 : Int32) (M : Mem) (Q : Nat → Mem → Prop) : WA d i_Camp_nameOf [.ref t, .int p1] M Q ↔ (if mC M t = 0 then (if (mR M t 0) = 999999 then False else (if (rdA (mC M (mR M t 0)) ∧ inb p1 (mL M (mR M t 0))) ∧ (mR M (mR M t 0) (Int32.toNatClampNeg p1)) ≠ 999999 then Q (mR M (mR M t 0) (Int32.toNatClampNeg p1)) M else False)) else False) :=
  sy_iff 400 _ _ _ _ _ _ _
set_option maxRecDepth 100000 in
theorem E_Camp_empty (d : Nat) (t : Nat) (M : Mem) (Q : Mem → Prop) : WV (d + 1) i_Camp_empty [.ref t] M Q ↔ (if mC M t = 0 then (if mC (setI M t 2 (0 : Int32)) t = 0 then (if (mR (setI M t 2 (0 : Int32)) t 1) = 999999 then False else (if mC (setI M t 2 (0 : Int32)) (mR (setI M t 2 (0 : Int32)) t 1) = 4 then (WI d i_Row_empty [.ref (mR (setI M t 2 (0 : Int32)) t 1)] (setI M t 2 (0 : Int32)) (fun x2 M1 => Q M1)) else False)) else False) else False) :=
  sy_iff 400 _ _ _ _ _ _ _
set_option maxRecDepth 100000 in
theorem E_Camp_addHerder (d : Nat) (t : Nat) (M : Mem) (Q : Mem → Prop) : WV (d + 1) i_Camp_addHerder [.ref t] M Q ↔ (if mC M t = 0 then (if (mI M t 2) < (6 : Int32) then (if mC M t = 0 then (if (mR M t 0) = 999999 then False else (if mC M t = 0 then (if (rdA (mC M (mR M t 0)) ∧ inb (mI M t 2) (mL M (mR M t 0))) ∧ (mR M (mR M t 0) (Int32.toNatClampNeg (mI M t 2))) ≠ 999999 then (if mC M (mR M (mR M t 0) (Int32.toNatClampNeg (mI M t 2))) = 4 then (WI d i_Row_empty [.ref (mR M (mR M t 0) (Int32.toNatClampNeg (mI M t 2)))] M (fun x2 M1 => (if mC M1 t = 0 then (if mC M1 t = 0 then Q (setI M1 t 2 ((mI M1 t 2) + (1 : Int32))) else False) else False))) else False) else False) else False)) else False) else Q M) else False) :=
  sy_iff 400 _ _ _ _ _ _ _
set_option maxRecDepth 100000 in
theorem E_Camp_tieLastHerder (d : Nat) (t : Nat) (p1 : Int32) (M : Mem) (Q : Mem → Prop) : WV (d + 1) i_Camp_tieLastHerder [.ref t, .int p1] M Q ↔ (if mC M t = 0 then (if 0 < (mI M t 2) then (if mC M t = 0 then (if (mR M t 0) = 999999 then False else (if mC M t = 0 then (if (rdA (mC M (mR M t 0)) ∧ inb ((mI M t 2) - (1 : Int32)) (mL M (mR M t 0))) ∧ (mR M (mR M t 0) (Int32.toNatClampNeg ((mI M t 2) - (1 : Int32)))) ≠ 999999 then (if mC M (mR M (mR M t 0) (Int32.toNatClampNeg ((mI M t 2) - (1 : Int32)))) = 4 then (WV d i_Row_appendTight [.ref (mR M (mR M t 0) (Int32.toNatClampNeg ((mI M t 2) - (1 : Int32)))), .int p1] M (fun M1 => Q M1)) else False) else False) else False)) else False) else Q M) else False) :=
  sy_iff 400 _ _ _ _ _ _ _
set_option maxRecDepth 100000 in
theorem E_Camp_become (d : Nat) (t : Nat) (p1 : Nat) (M : Mem) (Q : Mem → Prop) : WV (d + 1) i_Camp_become [.ref t, .ref p1] M Q ↔ (if mC M p1 = 0 then (if mC M t = 0 then Wn (d + 1) i_Camp_become 10 [(0, .ref t), (1, .ref p1), (2, .int (0 : Int32))] [] (setI M t 2 (mI M p1 2)) (QV Q) else False) else False) :=
  sy_iff 400 _ _ _ _ _ _ _
set_option maxRecDepth 100000 in
theorem H_Camp_become_10 (d : Nat) (v0 : Nat) (v1 : Nat) (v2 : Int32) (M : Mem) (Q : Option Value → Mem → Prop) : Wn (d + 1) i_Camp_become 10 [(0, .ref v0), (1, .ref v1), (2, .int v2)] [] M Q ↔ (if mC M v0 = 0 then (if v2 < (mI M v0 2) then (if mC M v0 = 0 then (if (mR M v0 0) = 999999 then False else (if (rdA (mC M (mR M v0 0)) ∧ inb v2 (mL M (mR M v0 0))) ∧ (mR M (mR M v0 0) (Int32.toNatClampNeg v2)) ≠ 999999 then (if mC M v1 = 0 then (if (mR M v1 0) = 999999 then False else (if (rdA (mC M (mR M v1 0)) ∧ inb v2 (mL M (mR M v1 0))) ∧ (mR M (mR M v1 0) (Int32.toNatClampNeg v2)) ≠ 999999 then (if mC M (mR M (mR M v0 0) (Int32.toNatClampNeg v2)) = 4 then (WV d i_Row_become [.ref (mR M (mR M v0 0) (Int32.toNatClampNeg v2)), .ref (mR M (mR M v1 0) (Int32.toNatClampNeg v2))] M (fun M1 => Wn (d + 1) i_Camp_become 10 [(0, .ref v0), (1, .ref v1), (2, .int (v2 + (1 : Int32)))] [] M1 Q)) else False) else False)) else False) else False)) else False) else (if mC M v0 = 0 then (if (mR M v0 1) = 999999 then False else (if mC M v1 = 0 then (if (mR M v1 1) = 999999 then False else (if mC M (mR M v0 1) = 4 then (WV d i_Row_become [.ref (mR M v0 1), .ref (mR M v1 1)] M (fun M2 => Q none M2)) else False)) else False)) else False)) else False) :=
  sy_iff 400 _ _ _ _ _ _ _
set_option maxRecDepth 100000 in
theorem E_Camp_turns (d : Nat) (t : Nat) (M : Mem) (Q : Int32 → Mem → Prop) : WI d i_Camp_turns [.ref t] M Q ↔ Wn d i_Camp_turns 4 [(0, .ref t), (1, .int (0 : Int32)), (2, .int (0 : Int32))] [] M (QI Q) :=
  sy_iff 400 _ _ _ _ _ _ _
set_option maxRecDepth 100000 in
theorem H_Camp_turns_4 (d : Nat) (v0 : Nat) (v1 : Int32) (v2 : Int32) (M : Mem) (Q : Option Value → Mem → Prop) : Wn d i_Camp_turns 4 [(0, .ref v0), (1, .int v1), (2, .int v2)] [] M Q ↔ (if mC M v0 = 0 then (if v2 < (mI M v0 2) then (if mC M v0 = 0 then (if (mR M v0 0) = 999999 then False else (if (rdA (mC M (mR M v0 0)) ∧ inb v2 (mL M (mR M v0 0))) ∧ (mR M (mR M v0 0) (Int32.toNatClampNeg v2)) ≠ 999999 then (if mC M (mR M (mR M v0 0) (Int32.toNatClampNeg v2)) = 4 then Wn d i_Camp_turns 4 [(0, .ref v0), (1, .int (v1 + (mI M (mR M (mR M v0 0) (Int32.toNatClampNeg v2)) 1))), (2, .int (v2 + (1 : Int32)))] [] M Q else False) else False)) else False) else Q (some (.int v1)) M) else False) :=
  sy_iff 400 _ _ _ _ _ _ _
set_option maxRecDepth 100000 in
theorem E_Camp_named (d : Nat) (t : Nat) (M : Mem) (Q : Int32 → Mem → Prop) : WI d i_Camp_named [.ref t] M Q ↔ Wn d i_Camp_named 4 [(0, .ref t), (1, .int (0 : Int32)), (2, .int (0 : Int32))] [] M (QI Q) :=
  sy_iff 400 _ _ _ _ _ _ _
set_option maxRecDepth 100000 in
theorem H_Camp_named_4 (d : Nat) (v0 : Nat) (v1 : Int32) (v2 : Int32) (M : Mem) (Q : Option Value → Mem → Prop) : Wn d i_Camp_named 4 [(0, .ref v0), (1, .int v1), (2, .int v2)] [] M Q ↔ (if mC M v0 = 0 then (if v2 < (mI M v0 2) then (if mC M v0 = 0 then (if (mR M v0 0) = 999999 then False else (if (rdA (mC M (mR M v0 0)) ∧ inb v2 (mL M (mR M v0 0))) ∧ (mR M (mR M v0 0) (Int32.toNatClampNeg v2)) ≠ 999999 then (if mC M (mR M (mR M v0 0) (Int32.toNatClampNeg v2)) = 4 then (if 0 < (mI M (mR M (mR M v0 0) (Int32.toNatClampNeg v2)) 1) then Wn d i_Camp_named 4 [(0, .ref v0), (1, .int (v1 ||| ((1 : Int32) <<< (v2 &&& 31)))), (2, .int (v2 + (1 : Int32)))] [] M Q else Wn d i_Camp_named 4 [(0, .ref v0), (1, .int v1), (2, .int (v2 + (1 : Int32)))] [] M Q) else False) else False)) else False) else Q (some (.int v1)) M) else False) :=
  sy_iff 400 _ _ _ _ _ _ _
set_option maxRecDepth 100000 in
theorem E_Camp_calledLike (d : Nat) (t : Nat) (p1 : Int32) (M : Mem) (Q : Int32 → Mem → Prop) : WI (d + 1) i_Camp_calledLike [.ref t, .int p1] M Q ↔ Wn (d + 1) i_Camp_calledLike 4 [(0, .ref t), (1, .int p1), (2, .int (0 : Int32)), (3, .int (0 : Int32))] [] M (QI Q) :=
  sy_iff 400 _ _ _ _ _ _ _
set_option maxRecDepth 100000 in
theorem H_Camp_calledLike_4 (d : Nat) (v0 : Nat) (v1 : Int32) (v2 : Int32) (v3 : Int32) (M : Mem) (Q : Option Value → Mem → Prop) : Wn (d + 1) i_Camp_calledLike 4 [(0, .ref v0), (1, .int v1), (2, .int v2), (3, .int v3)] [] M Q ↔ (if mC M v0 = 0 then (if v3 < (mI M v0 2) then (if mC M v0 = 0 then (if (mR M v0 0) = 999999 then False else (if (rdA (mC M (mR M v0 0)) ∧ inb v3 (mL M (mR M v0 0))) ∧ (mR M (mR M v0 0) (Int32.toNatClampNeg v3)) ≠ 999999 then (if mC M v0 = 0 then (if (mR M v0 0) = 999999 then False else (if (rdA (mC M (mR M v0 0)) ∧ inb v1 (mL M (mR M v0 0))) ∧ (mR M (mR M v0 0) (Int32.toNatClampNeg v1)) ≠ 999999 then (if mC M (mR M (mR M v0 0) (Int32.toNatClampNeg v3)) = 4 then (WI d i_Row_isLike [.ref (mR M (mR M v0 0) (Int32.toNatClampNeg v3)), .ref (mR M (mR M v0 0) (Int32.toNatClampNeg v1))] M (fun x2 M1 => (if x2 = 0 then Wn (d + 1) i_Camp_calledLike 4 [(0, .ref v0), (1, .int v1), (2, .int v2), (3, .int (v3 + (1 : Int32)))] [] M1 Q else Wn (d + 1) i_Camp_calledLike 4 [(0, .ref v0), (1, .int v1), (2, .int (v2 ||| ((1 : Int32) <<< (v3 &&& 31)))), (3, .int (v3 + (1 : Int32)))] [] M1 Q))) else False) else False)) else False) else False)) else False) else Q (some (.int v2)) M) else False) :=
  sy_iff 400 _ _ _ _ _ _ _
set_option maxRecDepth 100000 in
theorem E_Camp_unlikeNames (d : Nat) (t : Nat) (M : Mem) (Q : Int32 → Mem → Prop) : WI (d + 1) i_Camp_unlikeNames [.ref t] M Q ↔ Wn (d + 1) i_Camp_unlikeNames 4 [(0, .ref t), (1, .int (0 : Int32)), (2, .int (0 : Int32))] [] M (QI Q) :=
  sy_iff 400 _ _ _ _ _ _ _
set_option maxRecDepth 100000 in
theorem H_Camp_unlikeNames_4 (d : Nat) (v0 : Nat) (v1 : Int32) (v2 : Int32) (M : Mem) (Q : Option Value → Mem → Prop) : Wn (d + 1) i_Camp_unlikeNames 4 [(0, .ref v0), (1, .int v1), (2, .int v2)] [] M Q ↔ (if mC M v0 = 0 then (if v2 < (mI M v0 2) then (if mC M v0 = 0 then (WI d i_Camp_calledLike [.ref v0, .int v2] M (fun x2 M1 => (if (x2 &&& (((1 : Int32) <<< (v2 &&& 31)) - (1 : Int32))) = 0 then Wn (d + 1) i_Camp_unlikeNames 4 [(0, .ref v0), (1, .int (v1 + (1 : Int32))), (2, .int (v2 + (1 : Int32)))] [] M1 Q else Wn (d + 1) i_Camp_unlikeNames 4 [(0, .ref v0), (1, .int v1), (2, .int (v2 + (1 : Int32)))] [] M1 Q))) else False) else Q (some (.int v1)) M) else False) :=
  sy_iff 400 _ _ _ _ _ _ _
set_option maxRecDepth 100000 in
theorem E_Lives_readBack (d : Nat) (t : Nat) (p1 : Nat) (M : Mem) (Q : Mem → Prop) : WV (d + 1) i_Lives_readBack [.ref t, .ref p1] M Q ↔ (if mC M t = 1 then (if (mR M t 0) = 999999 then False else (if mC M p1 = 0 then (if (mR M p1 1) = 999999 then False else (if mC M (mR M t 0) = 4 then (WV d i_Row_becomeTight [.ref (mR M t 0), .ref (mR M p1 1)] M (fun M1 => (if mC M1 t = 1 then (if (mR M1 t 1) = 999999 then False else (if mC M1 (mR M1 t 1) = 4 then (WI d i_Row_empty [.ref (mR M1 t 1)] M1 (fun x3 M2 => (if mC M2 t = 1 then (if mC (setI M2 t 6 (0 : Int32)) t = 1 then Wn (d + 1) i_Lives_readBack 31 [(0, .ref t), (1, .ref p1), (2, .int (0 : Int32))] [] (setI (setI M2 t 6 (0 : Int32)) t 5 (0 : Int32)) (QV Q) else False) else False))) else False)) else False))) else False)) else False)) else False) :=
  sy_iff 400 _ _ _ _ _ _ _
set_option maxRecDepth 100000 in
theorem H_Lives_readBack_31 (d : Nat) (v0 : Nat) (v1 : Nat) (v2 : Int32) (M : Mem) (Q : Option Value → Mem → Prop) : Wn (d + 1) i_Lives_readBack 31 [(0, .ref v0), (1, .ref v1), (2, .int v2)] [] M Q ↔ (if v2 < (6 : Int32) then (if mC M v0 = 1 then (if (mR M v0 4) = 999999 then False else (if mC M (mR M v0 4) = 10 ∧ inb v2 (mL M (mR M v0 4)) then Wn (d + 1) i_Lives_readBack 31 [(0, .ref v0), (1, .ref v1), (2, .int (v2 + (1 : Int32)))] [] (setI M (mR M v0 4) (Int32.toNatClampNeg v2) (0 : Int32)) Q else False)) else False) else (WV d i_Lives_seek [.ref v0, .ref v1, .int (0 : Int32), .int (0 : Int32)] M (fun M1 => Q none M1))) :=
  sy_iff 400 _ _ _ _ _ _ _
set_option maxRecDepth 100000 in
theorem E_Lives_seek (d : Nat) (p1 : Nat) (p2 : Nat) (p3 : Int32) (p4 : Int32) (M : Mem) (Q : Mem → Prop) : WV (d + 1) i_Lives_seek [.ref p1, .ref p2, .int p3, .int p4] M Q ↔ (if p3 < (6 : Int32) then Wn (d + 1) i_Lives_seek 10 [(0, .ref p1), (1, .ref p2), (2, .int p3), (3, .int p4), (4, .int (0 : Int32))] [] M (QV Q) else Q M) :=
  sy_iff 400 _ _ _ _ _ _ _
set_option maxRecDepth 100000 in
theorem H_Lives_seek_10 (d : Nat) (v0 : Nat) (v1 : Nat) (v2 : Int32) (v3 : Int32) (v4 : Int32) (M : Mem) (Q : Option Value → Mem → Prop) : Wn (d + 1) i_Lives_seek 10 [(0, .ref v0), (1, .ref v1), (2, .int v2), (3, .int v3), (4, .int v4)] [] M Q ↔ (if mC M v1 = 0 then (if v4 < (mI M v1 2) then (if (v3 &&& ((1 : Int32) <<< (v4 &&& 31))) = 0 then (if mC M v0 = 1 then (if (mR M v0 2) = 999999 then False else (if mC M (mR M v0 2) = 10 ∧ inb v2 (mL M (mR M v0 2)) then (if mC (setI M (mR M v0 2) (Int32.toNatClampNeg v2) v4) v0 = 1 then (if (mR (setI M (mR M v0 2) (Int32.toNatClampNeg v2) v4) v0 1) = 999999 then False else (if mC (setI M (mR M v0 2) (Int32.toNatClampNeg v2) v4) v1 = 0 then (WA d i_Camp_nameOf [.ref v1, .int v4] (setI M (mR M v0 2) (Int32.toNatClampNeg v2) v4) (fun x2 M1 => (if mC M1 (mR (setI M (mR M v0 2) (Int32.toNatClampNeg v2) v4) v0 1) = 4 then (WV d i_Row_appendAllTight [.ref (mR (setI M (mR M v0 2) (Int32.toNatClampNeg v2) v4) v0 1), .ref x2] M1 (fun M3 => (if mC M3 v0 = 1 then (if (mR M3 v0 1) = 999999 then False else (if mC M3 v0 = 1 then (if (mR M3 v0 0) = 999999 then False else (if mC M3 (mR M3 v0 1) = 4 then (WI d i_Row_isLike [.ref (mR M3 v0 1), .ref (mR M3 v0 0)] M3 (fun x5 M4 => (if x5 = 0 then (WV d i_Lives_seek [.ref v0, .ref v1, .int (v2 + (1 : Int32)), .int (v3 ||| ((1 : Int32) <<< (v4 &&& 31)))] M4 (fun M6 => (if mC M6 v0 = 1 then (if (mR M6 v0 1) = 999999 then False else (if mC M6 v1 = 0 then (WA d i_Camp_nameOf [.ref v1, .int v4] M6 (fun x8 M7 => (if mC M7 (mR M6 v0 1) = 4 then (WV d i_Row_appendAllUndoing [.ref (mR M6 v0 1), .ref x8] M7 (fun M9 => Wn (d + 1) i_Lives_seek 10 [(0, .ref v0), (1, .ref v1), (2, .int v2), (3, .int v3), (4, .int (v4 + (1 : Int32)))] [] M9 Q)) else False))) else False)) else False))) else (if mC M4 v0 = 1 then (WV d i_Lives_note [.ref v0, .int (v2 + (1 : Int32))] M4 (fun M10 => (WV d i_Lives_seek [.ref v0, .ref v1, .int (v2 + (1 : Int32)), .int (v3 ||| ((1 : Int32) <<< (v4 &&& 31)))] M10 (fun M11 => (if mC M11 v0 = 1 then (if (mR M11 v0 1) = 999999 then False else (if mC M11 v1 = 0 then (WA d i_Camp_nameOf [.ref v1, .int v4] M11 (fun x13 M12 => (if mC M12 (mR M11 v0 1) = 4 then (WV d i_Row_appendAllUndoing [.ref (mR M11 v0 1), .ref x13] M12 (fun M14 => Wn (d + 1) i_Lives_seek 10 [(0, .ref v0), (1, .ref v1), (2, .int v2), (3, .int v3), (4, .int (v4 + (1 : Int32)))] [] M14 Q)) else False))) else False)) else False))))) else False)))) else False)) else False)) else False))) else False))) else False)) else False) else False)) else False) else Wn (d + 1) i_Lives_seek 10 [(0, .ref v0), (1, .ref v1), (2, .int v2), (3, .int v3), (4, .int (v4 + (1 : Int32)))] [] M Q) else Q none M) else False) :=
  sy_iff 400 _ _ _ _ _ _ _
set_option maxRecDepth 100000 in
theorem E_Lives_note (d : Nat) (t : Nat) (p1 : Int32) (M : Mem) (Q : Mem → Prop) : WV d i_Lives_note [.ref t, .int p1] M Q ↔ (if mC M t = 1 then (if (mI M t 6) = 0 then (if (1 : Int32) = 0 then Wn d i_Lives_note 32 [(0, .ref t), (1, .int p1), (2, .int (1 : Int32)), (3, .int (0 : Int32))] [] M (QV Q) else (if mC M t = 1 then Wn d i_Lives_note 32 [(0, .ref t), (1, .int p1), (2, .int (1 : Int32)), (3, .int (0 : Int32))] [] (setI M t 5 p1) (QV Q) else False)) else (if mC M t = 1 then (if p1 < (mI M t 5) then (if (1 : Int32) = 0 then Wn d i_Lives_note 32 [(0, .ref t), (1, .int p1), (2, .int (1 : Int32)), (3, .int (0 : Int32))] [] M (QV Q) else (if mC M t = 1 then Wn d i_Lives_note 32 [(0, .ref t), (1, .int p1), (2, .int (1 : Int32)), (3, .int (0 : Int32))] [] (setI M t 5 p1) (QV Q) else False)) else (if (0 : Int32) = 0 then Wn d i_Lives_note 32 [(0, .ref t), (1, .int p1), (2, .int (0 : Int32)), (3, .int (0 : Int32))] [] M (QV Q) else (if mC M t = 1 then Wn d i_Lives_note 32 [(0, .ref t), (1, .int p1), (2, .int (0 : Int32)), (3, .int (0 : Int32))] [] (setI M t 5 p1) (QV Q) else False))) else False)) else False) :=
  sy_iff 400 _ _ _ _ _ _ _
set_option maxRecDepth 100000 in
theorem H_Lives_note_32 (d : Nat) (v0 : Nat) (v1 : Int32) (v2 : Int32) (v3 : Int32) (M : Mem) (Q : Option Value → Mem → Prop) : Wn d i_Lives_note 32 [(0, .ref v0), (1, .int v1), (2, .int v2), (3, .int v3)] [] M Q ↔ (if v3 < v1 then (if mC M v0 = 1 then (if (mR M v0 4) = 999999 then False else (if mC M v0 = 1 then (if (mR M v0 2) = 999999 then False else (if rdI (mC M (mR M v0 2)) ∧ inb v3 (mL M (mR M v0 2)) then (if rdI (mC M (mR M v0 4)) ∧ inb (mI M (mR M v0 2) (Int32.toNatClampNeg v3)) (mL M (mR M v0 4)) then (if mC M (mR M v0 4) = 10 ∧ inb (mI M (mR M v0 2) (Int32.toNatClampNeg v3)) (mL M (mR M v0 4)) then (if v2 = 0 then Wn d i_Lives_note 32 [(0, .ref v0), (1, .int v1), (2, .int v2), (3, .int (v3 + (1 : Int32)))] [] (setI M (mR M v0 4) (Int32.toNatClampNeg (mI M (mR M v0 2) (Int32.toNatClampNeg v3))) ((mI M (mR M v0 4) (Int32.toNatClampNeg (mI M (mR M v0 2) (Int32.toNatClampNeg v3)))) + (1 : Int32))) Q else (if mC (setI M (mR M v0 4) (Int32.toNatClampNeg (mI M (mR M v0 2) (Int32.toNatClampNeg v3))) ((mI M (mR M v0 4) (Int32.toNatClampNeg (mI M (mR M v0 2) (Int32.toNatClampNeg v3)))) + (1 : Int32))) v0 = 1 then (if (mR (setI M (mR M v0 4) (Int32.toNatClampNeg (mI M (mR M v0 2) (Int32.toNatClampNeg v3))) ((mI M (mR M v0 4) (Int32.toNatClampNeg (mI M (mR M v0 2) (Int32.toNatClampNeg v3)))) + (1 : Int32))) v0 3) = 999999 then False else (if mC (setI M (mR M v0 4) (Int32.toNatClampNeg (mI M (mR M v0 2) (Int32.toNatClampNeg v3))) ((mI M (mR M v0 4) (Int32.toNatClampNeg (mI M (mR M v0 2) (Int32.toNatClampNeg v3)))) + (1 : Int32))) v0 = 1 then (if (mR (setI M (mR M v0 4) (Int32.toNatClampNeg (mI M (mR M v0 2) (Int32.toNatClampNeg v3))) ((mI M (mR M v0 4) (Int32.toNatClampNeg (mI M (mR M v0 2) (Int32.toNatClampNeg v3)))) + (1 : Int32))) v0 2) = 999999 then False else (if rdI (mC (setI M (mR M v0 4) (Int32.toNatClampNeg (mI M (mR M v0 2) (Int32.toNatClampNeg v3))) ((mI M (mR M v0 4) (Int32.toNatClampNeg (mI M (mR M v0 2) (Int32.toNatClampNeg v3)))) + (1 : Int32))) (mR (setI M (mR M v0 4) (Int32.toNatClampNeg (mI M (mR M v0 2) (Int32.toNatClampNeg v3))) ((mI M (mR M v0 4) (Int32.toNatClampNeg (mI M (mR M v0 2) (Int32.toNatClampNeg v3)))) + (1 : Int32))) v0 2)) ∧ inb v3 (mL (setI M (mR M v0 4) (Int32.toNatClampNeg (mI M (mR M v0 2) (Int32.toNatClampNeg v3))) ((mI M (mR M v0 4) (Int32.toNatClampNeg (mI M (mR M v0 2) (Int32.toNatClampNeg v3)))) + (1 : Int32))) (mR (setI M (mR M v0 4) (Int32.toNatClampNeg (mI M (mR M v0 2) (Int32.toNatClampNeg v3))) ((mI M (mR M v0 4) (Int32.toNatClampNeg (mI M (mR M v0 2) (Int32.toNatClampNeg v3)))) + (1 : Int32))) v0 2)) then (if mC (setI M (mR M v0 4) (Int32.toNatClampNeg (mI M (mR M v0 2) (Int32.toNatClampNeg v3))) ((mI M (mR M v0 4) (Int32.toNatClampNeg (mI M (mR M v0 2) (Int32.toNatClampNeg v3)))) + (1 : Int32))) (mR (setI M (mR M v0 4) (Int32.toNatClampNeg (mI M (mR M v0 2) (Int32.toNatClampNeg v3))) ((mI M (mR M v0 4) (Int32.toNatClampNeg (mI M (mR M v0 2) (Int32.toNatClampNeg v3)))) + (1 : Int32))) v0 3) = 10 ∧ inb v3 (mL (setI M (mR M v0 4) (Int32.toNatClampNeg (mI M (mR M v0 2) (Int32.toNatClampNeg v3))) ((mI M (mR M v0 4) (Int32.toNatClampNeg (mI M (mR M v0 2) (Int32.toNatClampNeg v3)))) + (1 : Int32))) (mR (setI M (mR M v0 4) (Int32.toNatClampNeg (mI M (mR M v0 2) (Int32.toNatClampNeg v3))) ((mI M (mR M v0 4) (Int32.toNatClampNeg (mI M (mR M v0 2) (Int32.toNatClampNeg v3)))) + (1 : Int32))) v0 3)) then Wn d i_Lives_note 32 [(0, .ref v0), (1, .int v1), (2, .int v2), (3, .int (v3 + (1 : Int32)))] [] (setI (setI M (mR M v0 4) (Int32.toNatClampNeg (mI M (mR M v0 2) (Int32.toNatClampNeg v3))) ((mI M (mR M v0 4) (Int32.toNatClampNeg (mI M (mR M v0 2) (Int32.toNatClampNeg v3)))) + (1 : Int32))) (mR (setI M (mR M v0 4) (Int32.toNatClampNeg (mI M (mR M v0 2) (Int32.toNatClampNeg v3))) ((mI M (mR M v0 4) (Int32.toNatClampNeg (mI M (mR M v0 2) (Int32.toNatClampNeg v3)))) + (1 : Int32))) v0 3) (Int32.toNatClampNeg v3) (mI (setI M (mR M v0 4) (Int32.toNatClampNeg (mI M (mR M v0 2) (Int32.toNatClampNeg v3))) ((mI M (mR M v0 4) (Int32.toNatClampNeg (mI M (mR M v0 2) (Int32.toNatClampNeg v3)))) + (1 : Int32))) (mR (setI M (mR M v0 4) (Int32.toNatClampNeg (mI M (mR M v0 2) (Int32.toNatClampNeg v3))) ((mI M (mR M v0 4) (Int32.toNatClampNeg (mI M (mR M v0 2) (Int32.toNatClampNeg v3)))) + (1 : Int32))) v0 2) (Int32.toNatClampNeg v3))) Q else False) else False)) else False)) else False)) else False) else False) else False)) else False)) else False) else (if mC M v0 = 1 then (if mC M v0 = 1 then Q none (setI M v0 6 ((mI M v0 6) + (1 : Int32))) else False) else False)) :=
  sy_iff 400 _ _ _ _ _ _ _
set_option maxRecDepth 100000 in
theorem E_Lives_inMost (d : Nat) (t : Nat) (M : Mem) (Q : Int32 → Mem → Prop) : WI d i_Lives_inMost [.ref t] M Q ↔ Wn d i_Lives_inMost 4 [(0, .ref t), (1, .int (0 : Int32)), (2, .int (1 : Int32))] [] M (QI Q) :=
  sy_iff 400 _ _ _ _ _ _ _
set_option maxRecDepth 100000 in
theorem H_Lives_inMost_4 (d : Nat) (v0 : Nat) (v1 : Int32) (v2 : Int32) (M : Mem) (Q : Option Value → Mem → Prop) : Wn d i_Lives_inMost 4 [(0, .ref v0), (1, .int v1), (2, .int v2)] [] M Q ↔ (if v2 < (6 : Int32) then (if mC M v0 = 1 then (if (mR M v0 4) = 999999 then False else (if rdI (mC M (mR M v0 4)) ∧ inb v2 (mL M (mR M v0 4)) then (if mC M v0 = 1 then (if (mR M v0 4) = 999999 then False else (if rdI (mC M (mR M v0 4)) ∧ inb v1 (mL M (mR M v0 4)) then (if (mI M (mR M v0 4) (Int32.toNatClampNeg v1)) < (mI M (mR M v0 4) (Int32.toNatClampNeg v2)) then Wn d i_Lives_inMost 4 [(0, .ref v0), (1, .int v2), (2, .int (v2 + (1 : Int32)))] [] M Q else Wn d i_Lives_inMost 4 [(0, .ref v0), (1, .int v1), (2, .int (v2 + (1 : Int32)))] [] M Q) else False)) else False) else False)) else False) else Q (some (.int v1)) M) :=
  sy_iff 400 _ _ _ _ _ _ _
set_option maxRecDepth 100000 in
theorem E_NewN_find (d : Nat) (t : Nat) (p1 : Nat) (p2 : Int32) (p3 : Int32) (M : Mem) (Q : Mem → Prop) : WV (d + 1) i_NewN_find [.ref t, .ref p1, .int p2, .int p3] M Q ↔ (if mC M t = 2 then (WL d i_KN_power [.int (6 : Int32), .int p2] (setI M t 2 (0 : Int32)) (fun x2 M1 => Wn (d + 1) i_NewN_find 17 [(0, .ref t), (1, .ref p1), (2, .int p2), (3, .int p3), (4, .int (Int64.toInt32 x2)), (5, .int (0 : Int32))] [] M1 (QV Q))) else False) :=
  sy_iff 400 _ _ _ _ _ _ _
set_option maxRecDepth 100000 in
theorem H_NewN_find_17 (d : Nat) (v0 : Nat) (v1 : Nat) (v2 : Int32) (v3 : Int32) (v4 : Int32) (v5 : Int32) (M : Mem) (Q : Option Value → Mem → Prop) : Wn (d + 1) i_NewN_find 17 [(0, .ref v0), (1, .ref v1), (2, .int v2), (3, .int v3), (4, .int v4), (5, .int v5)] [] M Q ↔ (if v5 < v4 then (if mC M v0 = 2 then (WV d i_NewN_spell [.ref v0, .int v5, .int v2] M (fun M1 => (if mC M1 v0 = 2 then (if (mR M1 v0 1) = 999999 then False else (if mC M1 (mR M1 v0 1) = 4 then (WI d i_Row_isTight [.ref (mR M1 v0 1)] M1 (fun x3 M2 => (if x3 = 0 then Wn (d + 1) i_NewN_find 17 [(0, .ref v0), (1, .ref v1), (2, .int v2), (3, .int v3), (4, .int v4), (5, .int (v5 + (1 : Int32)))] [] M2 Q else (if mC M2 v0 = 2 then (WI d i_NewN_isFar [.ref v0, .ref v1, .int v3] M2 (fun x5 M4 => (if x5 = 0 then Wn (d + 1) i_NewN_find 17 [(0, .ref v0), (1, .ref v1), (2, .int v2), (3, .int v3), (4, .int v4), (5, .int (v5 + (1 : Int32)))] [] M4 Q else (if mC M4 v0 = 2 then (if (mI M4 v0 2) = 0 then (if mC M4 v0 = 2 then (if (mR M4 v0 0) = 999999 then False else (if mC M4 v0 = 2 then (if (mR M4 v0 1) = 999999 then False else (if mC M4 (mR M4 v0 0) = 4 then (WV d i_Row_become [.ref (mR M4 v0 0), .ref (mR M4 v0 1)] M4 (fun M6 => (if mC M6 v0 = 2 then (if mC M6 v0 = 2 then Wn (d + 1) i_NewN_find 17 [(0, .ref v0), (1, .ref v1), (2, .int v2), (3, .int v3), (4, .int v4), (5, .int (v5 + (1 : Int32)))] [] (setI M6 v0 2 ((mI M6 v0 2) + (1 : Int32))) Q else False) else False))) else False)) else False)) else False) else (if mC M4 v0 = 2 then (if mC M4 v0 = 2 then Wn (d + 1) i_NewN_find 17 [(0, .ref v0), (1, .ref v1), (2, .int v2), (3, .int v3), (4, .int v4), (5, .int (v5 + (1 : Int32)))] [] (setI M4 v0 2 ((mI M4 v0 2) + (1 : Int32))) Q else False) else False)) else False)))) else False)))) else False)) else False))) else False) else Q none M) :=
  sy_iff 400 _ _ _ _ _ _ _
set_option maxRecDepth 100000 in
theorem E_NewN_spell (d : Nat) (t : Nat) (p1 : Int32) (p2 : Int32) (M : Mem) (Q : Mem → Prop) : WV (d + 1) i_NewN_spell [.ref t, .int p1, .int p2] M Q ↔ (if mC M t = 2 then (if (mR M t 1) = 999999 then False else (if mC M (mR M t 1) = 4 then (WI d i_Row_empty [.ref (mR M t 1)] M (fun x2 M1 => Wn (d + 1) i_NewN_spell 12 [(0, .ref t), (1, .int p1), (2, .int p2), (3, .int (p2 - (1 : Int32)))] [] M1 (QV Q))) else False)) else False) :=
  sy_iff 400 _ _ _ _ _ _ _
set_option maxRecDepth 100000 in
theorem H_NewN_spell_12 (d : Nat) (v0 : Nat) (v1 : Int32) (v2 : Int32) (v3 : Int32) (M : Mem) (Q : Option Value → Mem → Prop) : Wn (d + 1) i_NewN_spell 12 [(0, .ref v0), (1, .int v1), (2, .int v2), (3, .int v3)] [] M Q ↔ (if v3 < 0 then Q none M else (WL d i_KN_power [.int (6 : Int32), .int v3] M (fun x2 M1 => (if mC M1 v0 = 2 then (if (mR M1 v0 1) = 999999 then False else (if (if (1 : Int32) < (Int64.toInt32 x2) then (Int64.toInt32 x2) else (1 : Int32)) = 0 then False else (if mC M1 (mR M1 v0 1) = 4 then (WV d i_Row_append [.ref (mR M1 v0 1), .int ((v1 / (if (1 : Int32) < (Int64.toInt32 x2) then (Int64.toInt32 x2) else (1 : Int32))) - (v1 / (if (1 : Int32) < (Int64.toInt32 x2) then (Int64.toInt32 x2) else (1 : Int32))) / (6 : Int32) * (6 : Int32))] M1 (fun M3 => Wn (d + 1) i_NewN_spell 12 [(0, .ref v0), (1, .int v1), (2, .int v2), (3, .int (v3 + ((-1) : Int32)))] [] M3 Q)) else False))) else False)))) :=
  sy_iff 400 _ _ _ _ _ _ _
set_option maxRecDepth 100000 in
theorem E_NewN_isFar (d : Nat) (t : Nat) (p1 : Nat) (p2 : Int32) (M : Mem) (Q : Int32 → Mem → Prop) : WI (d + 1) i_NewN_isFar [.ref t, .ref p1, .int p2] M Q ↔ Wn (d + 1) i_NewN_isFar 2 [(0, .ref t), (1, .ref p1), (2, .int p2), (3, .int (0 : Int32))] [] M (QI Q) :=
  sy_iff 400 _ _ _ _ _ _ _
set_option maxRecDepth 100000 in
theorem H_NewN_isFar_2 (d : Nat) (v0 : Nat) (v1 : Nat) (v2 : Int32) (v3 : Int32) (M : Mem) (Q : Option Value → Mem → Prop) : Wn (d + 1) i_NewN_isFar 2 [(0, .ref v0), (1, .ref v1), (2, .int v2), (3, .int v3)] [] M Q ↔ (if mC M v1 = 0 then (if v3 < (mI M v1 2) then (if mC M v1 = 0 then (WA d i_Camp_nameOf [.ref v1, .int v3] M (fun x2 M1 => (if mC M1 x2 = 4 then (if mC M1 v0 = 2 then (if (mR M1 v0 1) = 999999 then False else (if mC M1 (mR M1 v0 1) = 4 then (if (mI M1 x2 1) = (mI M1 (mR M1 v0 1) 1) then (if mC M1 v0 = 2 then (if (mR M1 v0 1) = 999999 then False else (if mC M1 x2 = 4 then (WI d i_Row_differences [.ref x2, .ref (mR M1 v0 1)] M1 (fun x4 M3 => (if x4 < v2 then Q (some (.int (0 : Int32))) M3 else Wn (d + 1) i_NewN_isFar 2 [(0, .ref v0), (1, .ref v1), (2, .int v2), (3, .int (v3 + (1 : Int32)))] [] M3 Q))) else False)) else False) else Wn (d + 1) i_NewN_isFar 2 [(0, .ref v0), (1, .ref v1), (2, .int v2), (3, .int (v3 + (1 : Int32)))] [] M1 Q) else False)) else False) else False))) else False) else Q (some (.int (1 : Int32))) M) else False) :=
  sy_iff 400 _ _ _ _ _ _ _
set_option maxRecDepth 100000 in
theorem E_Past_remember (d : Nat) (t : Nat) (p1 : Nat) (M : Mem) (Q : Mem → Prop) : WV (d + 1) i_Past_remember [.ref t, .ref p1] M Q ↔ (if mC M t = 3 then (if ((mI M t 1) + (1 : Int32)) < (10 : Int32) then (if mC M t = 3 then (if mC M t = 3 then (if mC (setI M t 1 ((mI M t 1) + (1 : Int32))) t = 3 then (if (mR (setI M t 1 ((mI M t 1) + (1 : Int32))) t 0) = 999999 then False else (if mC (setI M t 1 ((mI M t 1) + (1 : Int32))) t = 3 then (if (rdA (mC (setI M t 1 ((mI M t 1) + (1 : Int32))) (mR (setI M t 1 ((mI M t 1) + (1 : Int32))) t 0)) ∧ inb (mI (setI M t 1 ((mI M t 1) + (1 : Int32))) t 1) (mL (setI M t 1 ((mI M t 1) + (1 : Int32))) (mR (setI M t 1 ((mI M t 1) + (1 : Int32))) t 0))) ∧ (mR (setI M t 1 ((mI M t 1) + (1 : Int32))) (mR (setI M t 1 ((mI M t 1) + (1 : Int32))) t 0) (Int32.toNatClampNeg (mI (setI M t 1 ((mI M t 1) + (1 : Int32))) t 1))) ≠ 999999 then (if mC (setI M t 1 ((mI M t 1) + (1 : Int32))) (mR (setI M t 1 ((mI M t 1) + (1 : Int32))) (mR (setI M t 1 ((mI M t 1) + (1 : Int32))) t 0) (Int32.toNatClampNeg (mI (setI M t 1 ((mI M t 1) + (1 : Int32))) t 1))) = 0 then (WV d i_Camp_become [.ref (mR (setI M t 1 ((mI M t 1) + (1 : Int32))) (mR (setI M t 1 ((mI M t 1) + (1 : Int32))) t 0) (Int32.toNatClampNeg (mI (setI M t 1 ((mI M t 1) + (1 : Int32))) t 1))), .ref p1] (setI M t 1 ((mI M t 1) + (1 : Int32))) (fun M1 => (if mC M1 t = 3 then (if mC M1 t = 3 then Q (setI M1 t 2 (if (10 : Int32) < ((mI M1 t 2) + (1 : Int32)) then (10 : Int32) else ((mI M1 t 2) + (1 : Int32)))) else False) else False))) else False) else False) else False)) else False) else False) else False) else (if mC M t = 3 then (if mC (setI M t 1 (0 : Int32)) t = 3 then (if (mR (setI M t 1 (0 : Int32)) t 0) = 999999 then False else (if mC (setI M t 1 (0 : Int32)) t = 3 then (if (rdA (mC (setI M t 1 (0 : Int32)) (mR (setI M t 1 (0 : Int32)) t 0)) ∧ inb (mI (setI M t 1 (0 : Int32)) t 1) (mL (setI M t 1 (0 : Int32)) (mR (setI M t 1 (0 : Int32)) t 0))) ∧ (mR (setI M t 1 (0 : Int32)) (mR (setI M t 1 (0 : Int32)) t 0) (Int32.toNatClampNeg (mI (setI M t 1 (0 : Int32)) t 1))) ≠ 999999 then (if mC (setI M t 1 (0 : Int32)) (mR (setI M t 1 (0 : Int32)) (mR (setI M t 1 (0 : Int32)) t 0) (Int32.toNatClampNeg (mI (setI M t 1 (0 : Int32)) t 1))) = 0 then (WV d i_Camp_become [.ref (mR (setI M t 1 (0 : Int32)) (mR (setI M t 1 (0 : Int32)) t 0) (Int32.toNatClampNeg (mI (setI M t 1 (0 : Int32)) t 1))), .ref p1] (setI M t 1 (0 : Int32)) (fun M2 => (if mC M2 t = 3 then (if mC M2 t = 3 then Q (setI M2 t 2 (if (10 : Int32) < ((mI M2 t 2) + (1 : Int32)) then (10 : Int32) else ((mI M2 t 2) + (1 : Int32)))) else False) else False))) else False) else False) else False)) else False) else False)) else False) :=
  sy_iff 400 _ _ _ _ _ _ _
set_option maxRecDepth 100000 in
theorem E_Past_takeBack (d : Nat) (t : Nat) (p1 : Nat) (M : Mem) (Q : Mem → Prop) : WV (d + 1) i_Past_takeBack [.ref t, .ref p1] M Q ↔ (if mC M t = 3 then (if 0 < (mI M t 2) then (if mC M t = 3 then (if (mR M t 0) = 999999 then False else (if mC M t = 3 then (if (rdA (mC M (mR M t 0)) ∧ inb (mI M t 1) (mL M (mR M t 0))) ∧ (mR M (mR M t 0) (Int32.toNatClampNeg (mI M t 1))) ≠ 999999 then (if mC M p1 = 0 then (WV d i_Camp_become [.ref p1, .ref (mR M (mR M t 0) (Int32.toNatClampNeg (mI M t 1)))] M (fun M1 => (if mC M1 t = 3 then (if 0 < (mI M1 t 1) then (if mC M1 t = 3 then (if mC M1 t = 3 then (if mC (setI M1 t 1 ((mI M1 t 1) - (1 : Int32))) t = 3 then (if mC (setI M1 t 1 ((mI M1 t 1) - (1 : Int32))) t = 3 then Q (setI (setI M1 t 1 ((mI M1 t 1) - (1 : Int32))) t 2 ((mI (setI M1 t 1 ((mI M1 t 1) - (1 : Int32))) t 2) - (1 : Int32))) else False) else False) else False) else False) else (if mC M1 t = 3 then (if mC (setI M1 t 1 (9 : Int32)) t = 3 then (if mC (setI M1 t 1 (9 : Int32)) t = 3 then Q (setI (setI M1 t 1 (9 : Int32)) t 2 ((mI (setI M1 t 1 (9 : Int32)) t 2) - (1 : Int32))) else False) else False) else False)) else False))) else False) else False) else False)) else False) else Q M) else False) :=
  sy_iff 400 _ _ _ _ _ _ _
set_option maxRecDepth 100000 in
theorem E_Past_forget (d : Nat) (t : Nat) (M : Mem) (Q : Mem → Prop) : WV d i_Past_forget [.ref t] M Q ↔ (if mC M t = 3 then Q (setI M t 2 (0 : Int32)) else False) :=
  sy_iff 400 _ _ _ _ _ _ _
set_option maxRecDepth 100000 in
theorem E_Row_at (d : Nat) (t : Nat) (p1 : Int32) (M : Mem) (Q : Int32 → Mem → Prop) : WI d i_Row_at [.ref t, .int p1] M Q ↔ (if p1 < 0 then Q ((-9) : Int32) M else (if mC M t = 4 then (if p1 < (mI M t 1) then (if mC M t = 4 then (if (mR M t 0) = 999999 then False else (if rdI (mC M (mR M t 0)) ∧ inb p1 (mL M (mR M t 0)) then Q (mI M (mR M t 0) (Int32.toNatClampNeg p1)) M else False)) else False) else Q ((-9) : Int32) M) else False)) :=
  sy_iff 400 _ _ _ _ _ _ _
set_option maxRecDepth 100000 in
theorem E_Row_last (d : Nat) (t : Nat) (M : Mem) (Q : Int32 → Mem → Prop) : WI (d + 1) i_Row_last [.ref t] M Q ↔ (if mC M t = 4 then (if mC M t = 4 then (WI d i_Row_at [.ref t, .int ((mI M t 1) - (1 : Int32))] M (fun x2 M1 => Q x2 M1)) else False) else False) :=
  sy_iff 400 _ _ _ _ _ _ _
set_option maxRecDepth 100000 in
theorem E_Row_empty (d : Nat) (t : Nat) (M : Mem) (Q : Int32 → Mem → Prop) : WI d i_Row_empty [.ref t] M Q ↔ (if mC M t = 4 then (if mC M t = 4 then Q (mI M t 1) (setI M t 1 (0 : Int32)) else False) else False) :=
  sy_iff 400 _ _ _ _ _ _ _
set_option maxRecDepth 100000 in
theorem E_Row_append (d : Nat) (t : Nat) (p1 : Int32) (M : Mem) (Q : Mem → Prop) : WV d i_Row_append [.ref t, .int p1] M Q ↔ (if mC M t = 4 then (if mC M t = 4 then (if (mR M t 0) = 999999 then False else (if isA (mC M (mR M t 0)) then (if (mI M t 1) < (nI (mL M (mR M t 0))) then (if mC M t = 4 then (if (mR M t 0) = 999999 then False else (if mC M t = 4 then (if mC M (mR M t 0) = 10 ∧ inb (mI M t 1) (mL M (mR M t 0)) then (if mC (setI M (mR M t 0) (Int32.toNatClampNeg (mI M t 1)) p1) t = 4 then (if mC (setI M (mR M t 0) (Int32.toNatClampNeg (mI M t 1)) p1) t = 4 then Q (setI (setI M (mR M t 0) (Int32.toNatClampNeg (mI M t 1)) p1) t 1 ((mI (setI M (mR M t 0) (Int32.toNatClampNeg (mI M t 1)) p1) t 1) + (1 : Int32))) else False) else False) else False) else False)) else False) else Q M) else False)) else False) else False) :=
  sy_iff 400 _ _ _ _ _ _ _
set_option maxRecDepth 100000 in
theorem E_Row_dropLast (d : Nat) (t : Nat) (M : Mem) (Q : Mem → Prop) : WV d i_Row_dropLast [.ref t] M Q ↔ (if mC M t = 4 then (if 0 < (mI M t 1) then (if mC M t = 4 then (if mC M t = 4 then Q (setI M t 1 ((mI M t 1) - (1 : Int32))) else False) else False) else Q M) else False) :=
  sy_iff 400 _ _ _ _ _ _ _
set_option maxRecDepth 100000 in
theorem E_Row_endsUndoing (d : Nat) (t : Nat) (p1 : Int32) (M : Mem) (Q : Int32 → Mem → Prop) : WI (d + 1) i_Row_endsUndoing [.ref t, .int p1] M Q ↔ (if mC M t = 4 then (if 0 < (mI M t 1) then (if mC M t = 4 then (if (mR M t 0) = 999999 then False else (if mC M t = 4 then (if rdI (mC M (mR M t 0)) ∧ inb ((mI M t 1) - (1 : Int32)) (mL M (mR M t 0)) then (WI d i_KN_undoing [.int p1] M (fun x2 M1 => (if (mI M (mR M t 0) (Int32.toNatClampNeg ((mI M t 1) - (1 : Int32)))) = x2 then Q (1 : Int32) M1 else Q (0 : Int32) M1))) else False) else False)) else False) else Q (0 : Int32) M) else False) :=
  sy_iff 400 _ _ _ _ _ _ _
set_option maxRecDepth 100000 in
theorem E_Row_takesTight (d : Nat) (t : Nat) (p1 : Int32) (M : Mem) (Q : Int32 → Mem → Prop) : WI (d + 1) i_Row_takesTight [.ref t, .int p1] M Q ↔ (if mC M t = 4 then (if mC M t = 4 then (if (mR M t 0) = 999999 then False else (if isA (mC M (mR M t 0)) then (if (mI M t 1) < (nI (mL M (mR M t 0))) then Q (1 : Int32) M else (if mC M t = 4 then (WI d i_Row_endsUndoing [.ref t, .int p1] M (fun x2 M1 => (if x2 = 0 then Q (0 : Int32) M1 else Q (1 : Int32) M1))) else False)) else False)) else False) else False) :=
  sy_iff 400 _ _ _ _ _ _ _
set_option maxRecDepth 100000 in
theorem E_Row_appendTight (d : Nat) (t : Nat) (p1 : Int32) (M : Mem) (Q : Mem → Prop) : WV (d + 1) i_Row_appendTight [.ref t, .int p1] M Q ↔ (if mC M t = 4 then (WI d i_Row_endsUndoing [.ref t, .int p1] M (fun x2 M1 => (if x2 = 0 then (if mC M1 t = 4 then (WV d i_Row_append [.ref t, .int p1] M1 (fun M3 => Q M3)) else False) else (if mC M1 t = 4 then (WV d i_Row_dropLast [.ref t] M1 (fun M4 => Q M4)) else False)))) else False) :=
  sy_iff 400 _ _ _ _ _ _ _
set_option maxRecDepth 100000 in
theorem E_Row_appendAllTight (d : Nat) (t : Nat) (p1 : Nat) (M : Mem) (Q : Mem → Prop) : WV (d + 1) i_Row_appendAllTight [.ref t, .ref p1] M Q ↔ Wn (d + 1) i_Row_appendAllTight 2 [(0, .ref t), (1, .ref p1), (2, .int (0 : Int32))] [] M (QV Q) :=
  sy_iff 400 _ _ _ _ _ _ _
set_option maxRecDepth 100000 in
theorem H_Row_appendAllTight_2 (d : Nat) (v0 : Nat) (v1 : Nat) (v2 : Int32) (M : Mem) (Q : Option Value → Mem → Prop) : Wn (d + 1) i_Row_appendAllTight 2 [(0, .ref v0), (1, .ref v1), (2, .int v2)] [] M Q ↔ (if mC M v1 = 4 then (if v2 < (mI M v1 1) then (if mC M v1 = 4 then (WI d i_Row_at [.ref v1, .int v2] M (fun x2 M1 => (if mC M1 v0 = 4 then (WV d i_Row_appendTight [.ref v0, .int x2] M1 (fun M3 => Wn (d + 1) i_Row_appendAllTight 2 [(0, .ref v0), (1, .ref v1), (2, .int (v2 + (1 : Int32)))] [] M3 Q)) else False))) else False) else Q none M) else False) :=
  sy_iff 400 _ _ _ _ _ _ _
set_option maxRecDepth 100000 in
theorem E_Row_appendAllUndoing (d : Nat) (t : Nat) (p1 : Nat) (M : Mem) (Q : Mem → Prop) : WV (d + 1) i_Row_appendAllUndoing [.ref t, .ref p1] M Q ↔ (if mC M p1 = 4 then Wn (d + 1) i_Row_appendAllUndoing 7 [(0, .ref t), (1, .ref p1), (2, .int ((mI M p1 1) - (1 : Int32)))] [] M (QV Q) else False) :=
  sy_iff 400 _ _ _ _ _ _ _
set_option maxRecDepth 100000 in
theorem H_Row_appendAllUndoing_7 (d : Nat) (v0 : Nat) (v1 : Nat) (v2 : Int32) (M : Mem) (Q : Option Value → Mem → Prop) : Wn (d + 1) i_Row_appendAllUndoing 7 [(0, .ref v0), (1, .ref v1), (2, .int v2)] [] M Q ↔ (if v2 < 0 then Q none M else (if mC M v1 = 4 then (WI d i_Row_at [.ref v1, .int v2] M (fun x2 M1 => (WI d i_KN_undoing [.int x2] M1 (fun x4 M3 => (if mC M3 v0 = 4 then (WV d i_Row_appendTight [.ref v0, .int x4] M3 (fun M5 => Wn (d + 1) i_Row_appendAllUndoing 7 [(0, .ref v0), (1, .ref v1), (2, .int (v2 + ((-1) : Int32)))] [] M5 Q)) else False))))) else False)) :=
  sy_iff 400 _ _ _ _ _ _ _
set_option maxRecDepth 100000 in
theorem E_Row_become (d : Nat) (t : Nat) (p1 : Nat) (M : Mem) (Q : Mem → Prop) : WV (d + 1) i_Row_become [.ref t, .ref p1] M Q ↔ (if mC M t = 4 then Wn (d + 1) i_Row_become 7 [(0, .ref t), (1, .ref p1), (2, .int (0 : Int32))] [] (setI M t 1 (0 : Int32)) (QV Q) else False) :=
  sy_iff 400 _ _ _ _ _ _ _
set_option maxRecDepth 100000 in
theorem H_Row_become_7 (d : Nat) (v0 : Nat) (v1 : Nat) (v2 : Int32) (M : Mem) (Q : Option Value → Mem → Prop) : Wn (d + 1) i_Row_become 7 [(0, .ref v0), (1, .ref v1), (2, .int v2)] [] M Q ↔ (if mC M v1 = 4 then (if v2 < (mI M v1 1) then (if mC M v1 = 4 then (WI d i_Row_at [.ref v1, .int v2] M (fun x2 M1 => (if mC M1 v0 = 4 then (WV d i_Row_append [.ref v0, .int x2] M1 (fun M3 => Wn (d + 1) i_Row_become 7 [(0, .ref v0), (1, .ref v1), (2, .int (v2 + (1 : Int32)))] [] M3 Q)) else False))) else False) else Q none M) else False) :=
  sy_iff 400 _ _ _ _ _ _ _
set_option maxRecDepth 100000 in
theorem E_Row_becomeTight (d : Nat) (t : Nat) (p1 : Nat) (M : Mem) (Q : Mem → Prop) : WV (d + 1) i_Row_becomeTight [.ref t, .ref p1] M Q ↔ (if mC M t = 4 then (if mC (setI M t 1 (0 : Int32)) t = 4 then (WV d i_Row_appendAllTight [.ref t, .ref p1] (setI M t 1 (0 : Int32)) (fun M1 => Q M1)) else False) else False) :=
  sy_iff 400 _ _ _ _ _ _ _
set_option maxRecDepth 100000 in
theorem E_Row_becomeJoined (d : Nat) (t : Nat) (p1 : Nat) (p2 : Nat) (M : Mem) (Q : Mem → Prop) : WV (d + 1) i_Row_becomeJoined [.ref t, .ref p1, .ref p2] M Q ↔ (if mC M t = 4 then (WV d i_Row_becomeTight [.ref t, .ref p1] M (fun M1 => (if mC M1 t = 4 then (WV d i_Row_appendAllTight [.ref t, .ref p2] M1 (fun M2 => Q M2)) else False))) else False) :=
  sy_iff 400 _ _ _ _ _ _ _
set_option maxRecDepth 100000 in
theorem E_Row_isTight (d : Nat) (t : Nat) (M : Mem) (Q : Int32 → Mem → Prop) : WI (d + 1) i_Row_isTight [.ref t] M Q ↔ Wn (d + 1) i_Row_isTight 2 [(0, .ref t), (1, .int (1 : Int32))] [] M (QI Q) :=
  sy_iff 400 _ _ _ _ _ _ _
set_option maxRecDepth 100000 in
theorem H_Row_isTight_2 (d : Nat) (v0 : Nat) (v1 : Int32) (M : Mem) (Q : Option Value → Mem → Prop) : Wn (d + 1) i_Row_isTight 2 [(0, .ref v0), (1, .int v1)] [] M Q ↔ (if mC M v0 = 4 then (if v1 < (mI M v0 1) then (if mC M v0 = 4 then (WI d i_Row_at [.ref v0, .int v1] M (fun x2 M1 => (if mC M1 v0 = 4 then (WI d i_Row_at [.ref v0, .int (v1 - (1 : Int32))] M1 (fun x4 M3 => (WI d i_KN_undoing [.int x4] M3 (fun x6 M5 => (if x2 = x6 then Q (some (.int (0 : Int32))) M5 else Wn (d + 1) i_Row_isTight 2 [(0, .ref v0), (1, .int (v1 + (1 : Int32)))] [] M5 Q))))) else False))) else False) else Q (some (.int (1 : Int32))) M) else False) :=
  sy_iff 400 _ _ _ _ _ _ _
set_option maxRecDepth 100000 in
theorem E_Row_commonStart (d : Nat) (t : Nat) (p1 : Nat) (M : Mem) (Q : Int32 → Mem → Prop) : WI (d + 1) i_Row_commonStart [.ref t, .ref p1] M Q ↔ (if mC M t = 4 then (if mC M p1 = 4 then Wn (d + 1) i_Row_commonStart 14 [(0, .ref t), (1, .ref p1), (2, .int (if (mI M p1 1) < (mI M t 1) then (mI M p1 1) else (mI M t 1))), (3, .int (0 : Int32))] [] M (QI Q) else False) else False) :=
  sy_iff 400 _ _ _ _ _ _ _
set_option maxRecDepth 100000 in
theorem H_Row_commonStart_14 (d : Nat) (v0 : Nat) (v1 : Nat) (v2 : Int32) (v3 : Int32) (M : Mem) (Q : Option Value → Mem → Prop) : Wn (d + 1) i_Row_commonStart 14 [(0, .ref v0), (1, .ref v1), (2, .int v2), (3, .int v3)] [] M Q ↔ (if v3 < v2 then (if mC M v0 = 4 then (WI d i_Row_at [.ref v0, .int v3] M (fun x2 M1 => (if mC M1 v1 = 4 then (WI d i_Row_at [.ref v1, .int v3] M1 (fun x4 M3 => (if x2 = x4 then Wn (d + 1) i_Row_commonStart 14 [(0, .ref v0), (1, .ref v1), (2, .int v2), (3, .int (v3 + (1 : Int32)))] [] M3 Q else Q (some (.int v3)) M3))) else False))) else False) else Q (some (.int v2)) M) :=
  sy_iff 400 _ _ _ _ _ _ _
set_option maxRecDepth 100000 in
theorem E_Row_isLike (d : Nat) (t : Nat) (p1 : Nat) (M : Mem) (Q : Int32 → Mem → Prop) : WI (d + 1) i_Row_isLike [.ref t, .ref p1] M Q ↔ (if mC M t = 4 then (if mC M p1 = 4 then (if (mI M t 1) = (mI M p1 1) then (if mC M t = 4 then (WI d i_Row_commonStart [.ref t, .ref p1] M (fun x2 M1 => (if mC M1 t = 4 then (if x2 = (mI M1 t 1) then Q (1 : Int32) M1 else Q (0 : Int32) M1) else False))) else False) else Q (0 : Int32) M) else False) else False) :=
  sy_iff 400 _ _ _ _ _ _ _
set_option maxRecDepth 100000 in
theorem E_Row_compareWith (d : Nat) (t : Nat) (p1 : Nat) (M : Mem) (Q : Int32 → Mem → Prop) : WI (d + 1) i_Row_compareWith [.ref t, .ref p1] M Q ↔ (if mC M t = 4 then (if mC M p1 = 4 then (if (mI M t 1) = (mI M p1 1) then (if mC M t = 4 then (WI d i_Row_commonStart [.ref t, .ref p1] M (fun x2 M1 => (if mC M1 t = 4 then (WI d i_Row_at [.ref t, .int x2] M1 (fun x4 M3 => (if mC M3 p1 = 4 then (WI d i_Row_at [.ref p1, .int x2] M3 (fun x6 M5 => (WI d i_JInt_compare [.int x4, .int x6] M5 (fun x8 M7 => Q x8 M7)))) else False))) else False))) else False) else (if mC M t = 4 then (if mC M p1 = 4 then (WI d i_JInt_compare [.int (mI M t 1), .int (mI M p1 1)] M (fun x10 M9 => Q x10 M9)) else False) else False)) else False) else False) :=
  sy_iff 400 _ _ _ _ _ _ _
set_option maxRecDepth 100000 in
theorem E_Row_differences (d : Nat) (t : Nat) (p1 : Nat) (M : Mem) (Q : Int32 → Mem → Prop) : WI (d + 1) i_Row_differences [.ref t, .ref p1] M Q ↔ Wn (d + 1) i_Row_differences 4 [(0, .ref t), (1, .ref p1), (2, .int (0 : Int32)), (3, .int (0 : Int32))] [] M (QI Q) :=
  sy_iff 400 _ _ _ _ _ _ _
set_option maxRecDepth 100000 in
theorem H_Row_differences_4 (d : Nat) (v0 : Nat) (v1 : Nat) (v2 : Int32) (v3 : Int32) (M : Mem) (Q : Option Value → Mem → Prop) : Wn (d + 1) i_Row_differences 4 [(0, .ref v0), (1, .ref v1), (2, .int v2), (3, .int v3)] [] M Q ↔ (if mC M v0 = 4 then (if v3 < (mI M v0 1) then (if mC M v0 = 4 then (WI d i_Row_at [.ref v0, .int v3] M (fun x2 M1 => (if mC M1 v1 = 4 then (WI d i_Row_at [.ref v1, .int v3] M1 (fun x4 M3 => (if x2 = x4 then Wn (d + 1) i_Row_differences 4 [(0, .ref v0), (1, .ref v1), (2, .int v2), (3, .int (v3 + (1 : Int32)))] [] M3 Q else Wn (d + 1) i_Row_differences 4 [(0, .ref v0), (1, .ref v1), (2, .int (v2 + (1 : Int32))), (3, .int (v3 + (1 : Int32)))] [] M3 Q))) else False))) else False) else Q (some (.int v2)) M) else False) :=
  sy_iff 400 _ _ _ _ _ _ _
set_option maxRecDepth 100000 in
theorem E_Row_shortestRepeated (d : Nat) (t : Nat) (M : Mem) (Q : Int32 → Mem → Prop) : WI (d + 1) i_Row_shortestRepeated [.ref t] M Q ↔ Wn (d + 1) i_Row_shortestRepeated 2 [(0, .ref t), (1, .int (1 : Int32))] [] M (QI Q) :=
  sy_iff 400 _ _ _ _ _ _ _
set_option maxRecDepth 100000 in
theorem H_Row_shortestRepeated_2 (d : Nat) (v0 : Nat) (v1 : Int32) (M : Mem) (Q : Option Value → Mem → Prop) : Wn (d + 1) i_Row_shortestRepeated 2 [(0, .ref v0), (1, .int v1)] [] M Q ↔ (if mC M v0 = 4 then (if v1 < (mI M v0 1) then (if mC M v0 = 4 then (if v1 = 0 then False else (if ((mI M v0 1) - (mI M v0 1) / v1 * v1) = 0 then (if mC M v0 = 4 then (WI d i_Row_repeats [.ref v0, .int v1] M (fun x2 M1 => (if x2 = 0 then Wn (d + 1) i_Row_shortestRepeated 2 [(0, .ref v0), (1, .int (v1 + (1 : Int32)))] [] M1 Q else Q (some (.int v1)) M1))) else False) else Wn (d + 1) i_Row_shortestRepeated 2 [(0, .ref v0), (1, .int (v1 + (1 : Int32)))] [] M Q)) else False) else (if mC M v0 = 4 then Q (some (.int (mI M v0 1))) M else False)) else False) :=
  sy_iff 400 _ _ _ _ _ _ _
set_option maxRecDepth 100000 in
theorem E_Row_repeats (d : Nat) (t : Nat) (p1 : Int32) (M : Mem) (Q : Int32 → Mem → Prop) : WI (d + 1) i_Row_repeats [.ref t, .int p1] M Q ↔ Wn (d + 1) i_Row_repeats 2 [(0, .ref t), (1, .int p1), (2, .int p1)] [] M (QI Q) :=
  sy_iff 400 _ _ _ _ _ _ _
set_option maxRecDepth 100000 in
theorem H_Row_repeats_2 (d : Nat) (v0 : Nat) (v1 : Int32) (v2 : Int32) (M : Mem) (Q : Option Value → Mem → Prop) : Wn (d + 1) i_Row_repeats 2 [(0, .ref v0), (1, .int v1), (2, .int v2)] [] M Q ↔ (if mC M v0 = 4 then (if v2 < (mI M v0 1) then (if mC M v0 = 4 then (WI d i_Row_at [.ref v0, .int v2] M (fun x2 M1 => (if mC M1 v0 = 4 then (WI d i_Row_at [.ref v0, .int (v2 - v1)] M1 (fun x4 M3 => (if x2 = x4 then Wn (d + 1) i_Row_repeats 2 [(0, .ref v0), (1, .int v1), (2, .int (v2 + (1 : Int32)))] [] M3 Q else Q (some (.int (0 : Int32))) M3))) else False))) else False) else Q (some (.int (1 : Int32))) M) else False) :=
  sy_iff 400 _ _ _ _ _ _ _
set_option maxRecDepth 100000 in
theorem E_Row_lostByBending (d : Nat) (t : Nat) (M : Mem) (Q : Int32 → Mem → Prop) : WI (d + 1) i_Row_lostByBending [.ref t] M Q ↔ Wn (d + 1) i_Row_lostByBending 4 [(0, .ref t), (1, .int (0 : Int32)), (2, .int (0 : Int32))] [] M (QI Q) :=
  sy_iff 400 _ _ _ _ _ _ _
set_option maxRecDepth 100000 in
theorem H_Row_lostByBending_4 (d : Nat) (v0 : Nat) (v1 : Int32) (v2 : Int32) (M : Mem) (Q : Option Value → Mem → Prop) : Wn (d + 1) i_Row_lostByBending 4 [(0, .ref v0), (1, .int v1), (2, .int v2)] [] M Q ↔ (if mC M v0 = 4 then (if (((2 : Int32) * v2) + (1 : Int32)) < (mI M v0 1) then (if mC M v0 = 4 then (WI d i_Row_at [.ref v0, .int v2] M (fun x2 M1 => (if mC M1 v0 = 4 then (if mC M1 v0 = 4 then (WI d i_Row_at [.ref v0, .int (((mI M1 v0 1) - (1 : Int32)) - v2)] M1 (fun x4 M3 => (WI d i_KN_undoing [.int x4] M3 (fun x6 M5 => (if x2 = x6 then Wn (d + 1) i_Row_lostByBending 4 [(0, .ref v0), (1, .int (v1 + (1 : Int32))), (2, .int (v2 + (1 : Int32)))] [] M5 Q else Q (some (.int v1)) M5))))) else False) else False))) else False) else Q (some (.int v1)) M) else False) :=
  sy_iff 400 _ _ _ _ _ _ _
set_option maxRecDepth 100000 in
theorem E_Row_isRingOf (d : Nat) (t : Nat) (p1 : Nat) (M : Mem) (Q : Int32 → Mem → Prop) : WI (d + 1) i_Row_isRingOf [.ref t, .ref p1] M Q ↔ (if mC M t = 4 then (WI d i_Row_lostByBending [.ref t] M (fun x2 M1 => (if mC M1 p1 = 4 then (WI d i_Row_lostByBending [.ref p1] M1 (fun x4 M3 => (if mC M3 t = 4 then (if mC M3 p1 = 4 then (if ((mI M3 t 1) - ((2 : Int32) * x2)) = ((mI M3 p1 1) - ((2 : Int32) * x4)) then Wn (d + 1) i_Row_isRingOf 38 [(0, .ref t), (1, .ref p1), (2, .int x2), (3, .int x4), (4, .int ((mI M3 t 1) - ((2 : Int32) * x2))), (5, .int (0 : Int32))] [] M3 (QI Q) else Q (0 : Int32) M3) else False) else False))) else False))) else False) :=
  sy_iff 400 _ _ _ _ _ _ _
set_option maxRecDepth 100000 in
theorem H_Row_isRingOf_38 (d : Nat) (v0 : Nat) (v1 : Nat) (v2 : Int32) (v3 : Int32) (v4 : Int32) (v5 : Int32) (M : Mem) (Q : Option Value → Mem → Prop) : Wn (d + 1) i_Row_isRingOf 38 [(0, .ref v0), (1, .ref v1), (2, .int v2), (3, .int v3), (4, .int v4), (5, .int v5)] [] M Q ↔ (if v5 < v4 then (if mC M v0 = 4 then (WI d i_Row_isRingBegunAt [.ref v0, .int v5, .ref v1, .int v2, .int v3, .int v4] M (fun x2 M1 => (if x2 = 0 then Wn (d + 1) i_Row_isRingOf 38 [(0, .ref v0), (1, .ref v1), (2, .int v2), (3, .int v3), (4, .int v4), (5, .int (v5 + (1 : Int32)))] [] M1 Q else Q (some (.int (1 : Int32))) M1))) else False) else (if v4 = 0 then Q (some (.int (1 : Int32))) M else Q (some (.int (0 : Int32))) M)) :=
  sy_iff 400 _ _ _ _ _ _ _
set_option maxRecDepth 100000 in
theorem E_Row_isRingBegunAt (d : Nat) (t : Nat) (p1 : Int32) (p2 : Nat) (p3 : Int32) (p4 : Int32) (p5 : Int32) (M : Mem) (Q : Int32 → Mem → Prop) : WI (d + 1) i_Row_isRingBegunAt [.ref t, .int p1, .ref p2, .int p3, .int p4, .int p5] M Q ↔ Wn (d + 1) i_Row_isRingBegunAt 3 [(0, .ref t), (1, .int p1), (2, .ref p2), (3, .int p3), (4, .int p4), (5, .int p5), (6, .int (0 : Int32))] [] M (QI Q) :=
  sy_iff 400 _ _ _ _ _ _ _
set_option maxRecDepth 100000 in
theorem H_Row_isRingBegunAt_3 (d : Nat) (v0 : Nat) (v1 : Int32) (v2 : Nat) (v3 : Int32) (v4 : Int32) (v5 : Int32) (v6 : Int32) (M : Mem) (Q : Option Value → Mem → Prop) : Wn (d + 1) i_Row_isRingBegunAt 3 [(0, .ref v0), (1, .int v1), (2, .ref v2), (3, .int v3), (4, .int v4), (5, .int v5), (6, .int v6)] [] M Q ↔ (if v6 < v5 then (if (v1 + v6) < v5 then (if mC M v0 = 4 then (WI d i_Row_at [.ref v0, .int (v3 + (v1 + v6))] M (fun x2 M1 => (if mC M1 v2 = 4 then (WI d i_Row_at [.ref v2, .int (v4 + v6)] M1 (fun x4 M3 => (if x2 = x4 then Wn (d + 1) i_Row_isRingBegunAt 3 [(0, .ref v0), (1, .int v1), (2, .ref v2), (3, .int v3), (4, .int v4), (5, .int v5), (6, .int (v6 + (1 : Int32)))] [] M3 Q else Q (some (.int (0 : Int32))) M3))) else False))) else False) else (if mC M v0 = 4 then (WI d i_Row_at [.ref v0, .int (v3 + ((v1 + v6) - v5))] M (fun x6 M5 => (if mC M5 v2 = 4 then (WI d i_Row_at [.ref v2, .int (v4 + v6)] M5 (fun x8 M7 => (if x6 = x8 then Wn (d + 1) i_Row_isRingBegunAt 3 [(0, .ref v0), (1, .int v1), (2, .ref v2), (3, .int v3), (4, .int v4), (5, .int v5), (6, .int (v6 + (1 : Int32)))] [] M7 Q else Q (some (.int (0 : Int32))) M7))) else False))) else False)) else Q (some (.int (1 : Int32))) M) :=
  sy_iff 400 _ _ _ _ _ _ _
set_option maxRecDepth 100000 in
theorem E_Text_append (d : Nat) (t : Nat) (p1 : Int32) (M : Mem) (Q : Int32 → Mem → Prop) : WI d i_Text_append [.ref t, .int p1] M Q ↔ (if mC M t = 5 then (if (mI M t 1) < (200 : Int32) then (if mC M t = 5 then (if (mR M t 0) = 999999 then False else (if mC M t = 5 then (if mC M (mR M t 0) = 11 ∧ inb (mI M t 1) (mL M (mR M t 0)) then (if mC (setI M (mR M t 0) (Int32.toNatClampNeg (mI M t 1)) (vp_nar .char (Int32.toUInt32 p1 % 65536).toInt32)) t = 5 then (if mC (setI M (mR M t 0) (Int32.toNatClampNeg (mI M t 1)) (vp_nar .char (Int32.toUInt32 p1 % 65536).toInt32)) t = 5 then Q (1 : Int32) (setI (setI M (mR M t 0) (Int32.toNatClampNeg (mI M t 1)) (vp_nar .char (Int32.toUInt32 p1 % 65536).toInt32)) t 1 ((mI (setI M (mR M t 0) (Int32.toNatClampNeg (mI M t 1)) (vp_nar .char (Int32.toUInt32 p1 % 65536).toInt32)) t 1) + (1 : Int32))) else False) else False) else False) else False)) else False) else Q (0 : Int32) M) else False) :=
  sy_iff 400 _ _ _ _ _ _ _
set_option maxRecDepth 100000 in
theorem E_Text_empty (d : Nat) (t : Nat) (M : Mem) (Q : Mem → Prop) : WV d i_Text_empty [.ref t] M Q ↔ (if mC M t = 5 then Q (setI M t 1 (0 : Int32)) else False) :=
  sy_iff 400 _ _ _ _ _ _ _
set_option maxRecDepth 100000 in
theorem E_Text_isTurnLetter (d : Nat) (p1 : Int32) (M : Mem) (Q : Int32 → Mem → Prop) : WI (d + 1) i_Text_isTurnLetter [.int p1] M Q ↔ (if mC M 1000001 = 20 then (WI d i_JStr_indexOf [.ref 1000001, .int p1] M (fun x2 M1 => (if x2 < 0 then Q (0 : Int32) M1 else Q (1 : Int32) M1))) else False) :=
  sy_iff 400 _ _ _ _ _ _ _
set_option maxRecDepth 100000 in
theorem E_Text_fault (d : Nat) (t : Nat) (M : Mem) (Q : Int32 → Mem → Prop) : WI (d + 1) i_Text_fault [.ref t] M Q ↔ Wn (d + 1) i_Text_fault 9 [(0, .ref t), (1, .int (0 : Int32)), (2, .int (0 : Int32)), (3, .int (0 : Int32)), (4, .int (0 : Int32))] [] M (QI Q) :=
  sy_iff 400 _ _ _ _ _ _ _
set_option maxRecDepth 100000 in
theorem H_Text_fault_9 (d : Nat) (v0 : Nat) (v1 : Int32) (v2 : Int32) (v3 : Int32) (v4 : Int32) (M : Mem) (Q : Option Value → Mem → Prop) : Wn (d + 1) i_Text_fault 9 [(0, .ref v0), (1, .int v1), (2, .int v2), (3, .int v3), (4, .int v4)] [] M Q ↔ (if mC M v0 = 5 then (if v4 < (mI M v0 1) then (if mC M v0 = 5 then (if (mR M v0 0) = 999999 then False else (if mC M (mR M v0 0) = 11 ∧ inb v4 (mL M (mR M v0 0)) then (if (mI M (mR M v0 0) (Int32.toNatClampNeg v4)) = (32 : Int32) then Wn (d + 1) i_Text_fault 9 [(0, .ref v0), (1, .int v1), (2, .int v2), (3, .int v3), (4, .int (v4 + (1 : Int32)))] [] M Q else (if v3 = 0 then (if v3 = 0 then (if v3 = 0 then (if (mI M (mR M v0 0) (Int32.toNatClampNeg v4)) = (104 : Int32) then (if v1 < (6 : Int32) then Wn (d + 1) i_Text_fault 9 [(0, .ref v0), (1, .int (v1 + (1 : Int32))), (2, .int (0 : Int32)), (3, .int (1 : Int32)), (4, .int (v4 + (1 : Int32)))] [] M Q else Q (some (.int v4)) M) else Q (some (.int v4)) M) else Q (some (.int v4)) M) else (WI d i_Text_isTurnLetter [.int (mI M (mR M v0 0) (Int32.toNatClampNeg v4))] M (fun x2 M1 => (if x2 = 0 then (if v3 = 0 then (if (mI M (mR M v0 0) (Int32.toNatClampNeg v4)) = (104 : Int32) then (if v1 < (6 : Int32) then Wn (d + 1) i_Text_fault 9 [(0, .ref v0), (1, .int (v1 + (1 : Int32))), (2, .int (0 : Int32)), (3, .int (1 : Int32)), (4, .int (v4 + (1 : Int32)))] [] M1 Q else Q (some (.int v4)) M1) else Q (some (.int v4)) M1) else Q (some (.int v4)) M1) else (if v2 < (8 : Int32) then Wn (d + 1) i_Text_fault 9 [(0, .ref v0), (1, .int v1), (2, .int (v2 + (1 : Int32))), (3, .int v3), (4, .int (v4 + (1 : Int32)))] [] M1 Q else (if v3 = 0 then (if (mI M (mR M v0 0) (Int32.toNatClampNeg v4)) = (104 : Int32) then (if v1 < (6 : Int32) then Wn (d + 1) i_Text_fault 9 [(0, .ref v0), (1, .int (v1 + (1 : Int32))), (2, .int (0 : Int32)), (3, .int (1 : Int32)), (4, .int (v4 + (1 : Int32)))] [] M1 Q else Q (some (.int v4)) M1) else Q (some (.int v4)) M1) else Q (some (.int v4)) M1)))))) else (if (mI M (mR M v0 0) (Int32.toNatClampNeg v4)) = (59 : Int32) then Wn (d + 1) i_Text_fault 9 [(0, .ref v0), (1, .int v1), (2, .int v2), (3, .int (0 : Int32)), (4, .int (v4 + (1 : Int32)))] [] M Q else (if v3 = 0 then (if v3 = 0 then (if (mI M (mR M v0 0) (Int32.toNatClampNeg v4)) = (104 : Int32) then (if v1 < (6 : Int32) then Wn (d + 1) i_Text_fault 9 [(0, .ref v0), (1, .int (v1 + (1 : Int32))), (2, .int (0 : Int32)), (3, .int (1 : Int32)), (4, .int (v4 + (1 : Int32)))] [] M Q else Q (some (.int v4)) M) else Q (some (.int v4)) M) else Q (some (.int v4)) M) else (WI d i_Text_isTurnLetter [.int (mI M (mR M v0 0) (Int32.toNatClampNeg v4))] M (fun x4 M3 => (if x4 = 0 then (if v3 = 0 then (if (mI M (mR M v0 0) (Int32.toNatClampNeg v4)) = (104 : Int32) then (if v1 < (6 : Int32) then Wn (d + 1) i_Text_fault 9 [(0, .ref v0), (1, .int (v1 + (1 : Int32))), (2, .int (0 : Int32)), (3, .int (1 : Int32)), (4, .int (v4 + (1 : Int32)))] [] M3 Q else Q (some (.int v4)) M3) else Q (some (.int v4)) M3) else Q (some (.int v4)) M3) else (if v2 < (8 : Int32) then Wn (d + 1) i_Text_fault 9 [(0, .ref v0), (1, .int v1), (2, .int (v2 + (1 : Int32))), (3, .int v3), (4, .int (v4 + (1 : Int32)))] [] M3 Q else (if v3 = 0 then (if (mI M (mR M v0 0) (Int32.toNatClampNeg v4)) = (104 : Int32) then (if v1 < (6 : Int32) then Wn (d + 1) i_Text_fault 9 [(0, .ref v0), (1, .int (v1 + (1 : Int32))), (2, .int (0 : Int32)), (3, .int (1 : Int32)), (4, .int (v4 + (1 : Int32)))] [] M3 Q else Q (some (.int v4)) M3) else Q (some (.int v4)) M3) else Q (some (.int v4)) M3))))))))) else False)) else False) else (if v3 = 0 then Q (some (.int ((-1) : Int32))) M else (if mC M v0 = 5 then Q (some (.int (mI M v0 1))) M else False))) else False) :=
  sy_iff 400 _ _ _ _ _ _ _
set_option maxRecDepth 100000 in
theorem E_Text_tell (d : Nat) (t : Nat) (p1 : Nat) (M : Mem) (Q : Mem → Prop) : WV (d + 1) i_Text_tell [.ref t, .ref p1] M Q ↔ (if mC M p1 = 0 then (WV d i_Camp_empty [.ref p1] M (fun M1 => Wn (d + 1) i_Text_tell 6 [(0, .ref t), (1, .ref p1), (2, .int (0 : Int32))] [] M1 (QV Q))) else False) :=
  sy_iff 400 _ _ _ _ _ _ _
set_option maxRecDepth 100000 in
theorem H_Text_tell_6 (d : Nat) (v0 : Nat) (v1 : Nat) (v2 : Int32) (M : Mem) (Q : Option Value → Mem → Prop) : Wn (d + 1) i_Text_tell 6 [(0, .ref v0), (1, .ref v1), (2, .int v2)] [] M Q ↔ (if mC M v0 = 5 then (if v2 < (mI M v0 1) then (if mC M v0 = 5 then (if (mR M v0 0) = 999999 then False else (if mC M (mR M v0 0) = 11 ∧ inb v2 (mL M (mR M v0 0)) then (if (mI M (mR M v0 0) (Int32.toNatClampNeg v2)) = (104 : Int32) then (if mC M v1 = 0 then (WV d i_Camp_addHerder [.ref v1] M (fun M1 => Wn (d + 1) i_Text_tell 6 [(0, .ref v0), (1, .ref v1), (2, .int (v2 + (1 : Int32)))] [] M1 Q)) else False) else (WI d i_Text_isTurnLetter [.int (mI M (mR M v0 0) (Int32.toNatClampNeg v2))] M (fun x3 M2 => (if x3 = 0 then Wn (d + 1) i_Text_tell 6 [(0, .ref v0), (1, .ref v1), (2, .int (v2 + (1 : Int32)))] [] M2 Q else (if mC M2 1000001 = 20 then (WI d i_JStr_indexOf [.ref 1000001, .int (mI M (mR M v0 0) (Int32.toNatClampNeg v2))] M2 (fun x5 M4 => (if mC M4 v1 = 0 then (WV d i_Camp_tieLastHerder [.ref v1, .int x5] M4 (fun M6 => Wn (d + 1) i_Text_tell 6 [(0, .ref v0), (1, .ref v1), (2, .int (v2 + (1 : Int32)))] [] M6 Q)) else False))) else False))))) else False)) else False) else Q none M) else False) :=
  sy_iff 400 _ _ _ _ _ _ _
set_option maxRecDepth 100000 in
theorem E_JInt_compare (d : Nat) (p1 : Int32) (p2 : Int32) (M : Mem) (Q : Int32 → Mem → Prop) : WI d i_JInt_compare [.int p1, .int p2] M Q ↔ (if p1 < p2 then Q ((-1) : Int32) M else (if p1 = p2 then Q (0 : Int32) M else Q (1 : Int32) M)) :=
  sy_iff 400 _ _ _ _ _ _ _
set_option maxRecDepth 100000 in
theorem E_JInt_bitCount (d : Nat) (p1 : Int32) (M : Mem) (Q : Int32 → Mem → Prop) : WI d i_JInt_bitCount [.int p1] M Q ↔ Q ((((((((p1 - ((Int32.toUInt32 p1 >>> (Int32.toUInt32 (1 : Int32) &&& Int32.toUInt32 31)).toInt32 &&& (1431655765 : Int32))) &&& (858993459 : Int32)) + ((Int32.toUInt32 (p1 - ((Int32.toUInt32 p1 >>> (Int32.toUInt32 (1 : Int32) &&& Int32.toUInt32 31)).toInt32 &&& (1431655765 : Int32))) >>> (Int32.toUInt32 (2 : Int32) &&& Int32.toUInt32 31)).toInt32 &&& (858993459 : Int32))) + (Int32.toUInt32 (((p1 - ((Int32.toUInt32 p1 >>> (Int32.toUInt32 (1 : Int32) &&& Int32.toUInt32 31)).toInt32 &&& (1431655765 : Int32))) &&& (858993459 : Int32)) + ((Int32.toUInt32 (p1 - ((Int32.toUInt32 p1 >>> (Int32.toUInt32 (1 : Int32) &&& Int32.toUInt32 31)).toInt32 &&& (1431655765 : Int32))) >>> (Int32.toUInt32 (2 : Int32) &&& Int32.toUInt32 31)).toInt32 &&& (858993459 : Int32))) >>> (Int32.toUInt32 (4 : Int32) &&& Int32.toUInt32 31)).toInt32) &&& (252645135 : Int32)) + (Int32.toUInt32 (((((p1 - ((Int32.toUInt32 p1 >>> (Int32.toUInt32 (1 : Int32) &&& Int32.toUInt32 31)).toInt32 &&& (1431655765 : Int32))) &&& (858993459 : Int32)) + ((Int32.toUInt32 (p1 - ((Int32.toUInt32 p1 >>> (Int32.toUInt32 (1 : Int32) &&& Int32.toUInt32 31)).toInt32 &&& (1431655765 : Int32))) >>> (Int32.toUInt32 (2 : Int32) &&& Int32.toUInt32 31)).toInt32 &&& (858993459 : Int32))) + (Int32.toUInt32 (((p1 - ((Int32.toUInt32 p1 >>> (Int32.toUInt32 (1 : Int32) &&& Int32.toUInt32 31)).toInt32 &&& (1431655765 : Int32))) &&& (858993459 : Int32)) + ((Int32.toUInt32 (p1 - ((Int32.toUInt32 p1 >>> (Int32.toUInt32 (1 : Int32) &&& Int32.toUInt32 31)).toInt32 &&& (1431655765 : Int32))) >>> (Int32.toUInt32 (2 : Int32) &&& Int32.toUInt32 31)).toInt32 &&& (858993459 : Int32))) >>> (Int32.toUInt32 (4 : Int32) &&& Int32.toUInt32 31)).toInt32) &&& (252645135 : Int32)) >>> (Int32.toUInt32 (8 : Int32) &&& Int32.toUInt32 31)).toInt32) + (Int32.toUInt32 ((((((p1 - ((Int32.toUInt32 p1 >>> (Int32.toUInt32 (1 : Int32) &&& Int32.toUInt32 31)).toInt32 &&& (1431655765 : Int32))) &&& (858993459 : Int32)) + ((Int32.toUInt32 (p1 - ((Int32.toUInt32 p1 >>> (Int32.toUInt32 (1 : Int32) &&& Int32.toUInt32 31)).toInt32 &&& (1431655765 : Int32))) >>> (Int32.toUInt32 (2 : Int32) &&& Int32.toUInt32 31)).toInt32 &&& (858993459 : Int32))) + (Int32.toUInt32 (((p1 - ((Int32.toUInt32 p1 >>> (Int32.toUInt32 (1 : Int32) &&& Int32.toUInt32 31)).toInt32 &&& (1431655765 : Int32))) &&& (858993459 : Int32)) + ((Int32.toUInt32 (p1 - ((Int32.toUInt32 p1 >>> (Int32.toUInt32 (1 : Int32) &&& Int32.toUInt32 31)).toInt32 &&& (1431655765 : Int32))) >>> (Int32.toUInt32 (2 : Int32) &&& Int32.toUInt32 31)).toInt32 &&& (858993459 : Int32))) >>> (Int32.toUInt32 (4 : Int32) &&& Int32.toUInt32 31)).toInt32) &&& (252645135 : Int32)) + (Int32.toUInt32 (((((p1 - ((Int32.toUInt32 p1 >>> (Int32.toUInt32 (1 : Int32) &&& Int32.toUInt32 31)).toInt32 &&& (1431655765 : Int32))) &&& (858993459 : Int32)) + ((Int32.toUInt32 (p1 - ((Int32.toUInt32 p1 >>> (Int32.toUInt32 (1 : Int32) &&& Int32.toUInt32 31)).toInt32 &&& (1431655765 : Int32))) >>> (Int32.toUInt32 (2 : Int32) &&& Int32.toUInt32 31)).toInt32 &&& (858993459 : Int32))) + (Int32.toUInt32 (((p1 - ((Int32.toUInt32 p1 >>> (Int32.toUInt32 (1 : Int32) &&& Int32.toUInt32 31)).toInt32 &&& (1431655765 : Int32))) &&& (858993459 : Int32)) + ((Int32.toUInt32 (p1 - ((Int32.toUInt32 p1 >>> (Int32.toUInt32 (1 : Int32) &&& Int32.toUInt32 31)).toInt32 &&& (1431655765 : Int32))) >>> (Int32.toUInt32 (2 : Int32) &&& Int32.toUInt32 31)).toInt32 &&& (858993459 : Int32))) >>> (Int32.toUInt32 (4 : Int32) &&& Int32.toUInt32 31)).toInt32) &&& (252645135 : Int32)) >>> (Int32.toUInt32 (8 : Int32) &&& Int32.toUInt32 31)).toInt32) >>> (Int32.toUInt32 (16 : Int32) &&& Int32.toUInt32 31)).toInt32) &&& (63 : Int32)) M :=
  sy_iff 400 _ _ _ _ _ _ _
set_option maxRecDepth 100000 in
theorem E_JStr_length (d : Nat) (t : Nat) (M : Mem) (Q : Int32 → Mem → Prop) : WI (d + 1) i_JStr_length [.ref t] M Q ↔ (if mC M t = 20 then (if (mR M t 0) = 999999 then False else (if isA (mC M (mR M t 0)) then (if mC M t = 20 then (WI d i_JStr_coder [.ref t] M (fun x2 M1 => Q ((nI (mL M (mR M t 0))) >>> (x2 &&& 31)) M1)) else False) else False)) else False) :=
  sy_iff 400 _ _ _ _ _ _ _
set_option maxRecDepth 100000 in
theorem E_JStr_indexOf (d : Nat) (t : Nat) (p1 : Int32) (M : Mem) (Q : Int32 → Mem → Prop) : WI (d + 1) i_JStr_indexOf [.ref t, .int p1] M Q ↔ (if mC M t = 20 then (WI d i_JStr_indexOf2 [.ref t, .int p1, .int (0 : Int32)] M (fun x2 M1 => Q x2 M1)) else False) :=
  sy_iff 400 _ _ _ _ _ _ _
set_option maxRecDepth 100000 in
theorem E_JStr_indexOf2 (d : Nat) (t : Nat) (p1 : Int32) (p2 : Int32) (M : Mem) (Q : Int32 → Mem → Prop) : WI (d + 1) i_JStr_indexOf2 [.ref t, .int p1, .int p2] M Q ↔ (if mC M t = 20 then (WI d i_JStr_isLatin1 [.ref t] M (fun x2 M1 => (if x2 = 0 then (if mC M1 t = 20 then (if (mR M1 t 0) = 999999 then False else (if mC M1 t = 20 then (WI d i_JStr_length [.ref t] M1 (fun x4 M3 => False)) else False)) else False) else (if mC M1 t = 20 then (if (mR M1 t 0) = 999999 then False else (if mC M1 t = 20 then (WI d i_JStr_length [.ref t] M1 (fun x6 M5 => (WI d i_JLat_indexOf [.ref (mR M1 t 0), .int p1, .int p2, .int x6] M5 (fun x8 M7 => Q x8 M7)))) else False)) else False)))) else False) :=
  sy_iff 400 _ _ _ _ _ _ _
set_option maxRecDepth 100000 in
theorem E_JStr_coder (d : Nat) (t : Nat) (M : Mem) (Q : Int32 → Mem → Prop) : WI d i_JStr_coder [.ref t] M Q ↔ (if (1 : Int32) = 0 then (if narrow .byte (.int (1 : Int32)) = .int (1 : Int32) then Q (1 : Int32) M else False) else (if mC M t = 20 then (if narrow .byte (.int (mI M t 1)) = .int (mI M t 1) then Q (mI M t 1) M else False) else False)) :=
  sy_iff 400 _ _ _ _ _ _ _
set_option maxRecDepth 100000 in
theorem E_JStr_isLatin1 (d : Nat) (t : Nat) (M : Mem) (Q : Int32 → Mem → Prop) : WI d i_JStr_isLatin1 [.ref t] M Q ↔ (if (1 : Int32) = 0 then Q (0 : Int32) M else (if mC M t = 20 then (if (mI M t 1) = 0 then Q (1 : Int32) M else Q (0 : Int32) M) else False)) :=
  sy_iff 400 _ _ _ _ _ _ _
set_option maxRecDepth 100000 in
theorem E_JLat_canEncode (d : Nat) (p1 : Int32) (M : Mem) (Q : Int32 → Mem → Prop) : WI d i_JLat_canEncode [.int p1] M Q ↔ (if p1 < 0 then Q (0 : Int32) M else (if (255 : Int32) < p1 then Q (0 : Int32) M else Q (1 : Int32) M)) :=
  sy_iff 400 _ _ _ _ _ _ _
set_option maxRecDepth 100000 in
theorem E_JLat_indexOf (d : Nat) (p1 : Nat) (p2 : Int32) (p3 : Int32) (p4 : Int32) (M : Mem) (Q : Int32 → Mem → Prop) : WI (d + 1) i_JLat_indexOf [.ref p1, .int p2, .int p3, .int p4] M Q ↔ (WI d i_JLat_canEncode [.int p2] M (fun x2 M1 => (if x2 = 0 then Q ((-1) : Int32) M1 else (if isA (mC M1 p1) then (if (if p3 < (0 : Int32) then (0 : Int32) else p3) < (if (nI (mL M1 p1)) < p4 then (nI (mL M1 p1)) else p4) then (WI d i_JLat_indexOfChar [.ref p1, .int p2, .int (if p3 < (0 : Int32) then (0 : Int32) else p3), .int (if (nI (mL M1 p1)) < p4 then (nI (mL M1 p1)) else p4)] M1 (fun x4 M3 => Q x4 M3)) else Q ((-1) : Int32) M1) else False)))) :=
  sy_iff 400 _ _ _ _ _ _ _
set_option maxRecDepth 100000 in
theorem E_JLat_indexOfChar (d : Nat) (p1 : Nat) (p2 : Int32) (p3 : Int32) (p4 : Int32) (M : Mem) (Q : Int32 → Mem → Prop) : WI d i_JLat_indexOfChar [.ref p1, .int p2, .int p3, .int p4] M Q ↔ Wn d i_JLat_indexOfChar 7 [(0, .ref p1), (1, .int p2), (2, .int p3), (3, .int p4), (4, .int (Int8.toInt32 (Int32.toInt8 p2))), (5, .int p3)] [] M (QI Q) :=
  sy_iff 400 _ _ _ _ _ _ _
set_option maxRecDepth 100000 in
theorem H_JLat_indexOfChar_7 (d : Nat) (v0 : Nat) (v1 : Int32) (v2 : Int32) (v3 : Int32) (v4 : Int32) (v5 : Int32) (M : Mem) (Q : Option Value → Mem → Prop) : Wn d i_JLat_indexOfChar 7 [(0, .ref v0), (1, .int v1), (2, .int v2), (3, .int v3), (4, .int v4), (5, .int v5)] [] M Q ↔ (if v5 < v3 then (if rdB (mC M v0) ∧ inb v5 (mL M v0) then (if (mI M v0 (Int32.toNatClampNeg v5)) = v4 then Q (some (.int v5)) M else Wn d i_JLat_indexOfChar 7 [(0, .ref v0), (1, .int v1), (2, .int v2), (3, .int v3), (4, .int v4), (5, .int (v5 + (1 : Int32)))] [] M Q) else False) else Q (some (.int ((-1) : Int32))) M) :=
  sy_iff 400 _ _ _ _ _ _ _
end
section
set_option maxRecDepth 100000 in
theorem E_KN_type (d : Nat) (t : Nat) (p1 : Int32) (M : Mem) (Q : Int32 → Mem → Prop) : WI (d + 1) i_KN_type [.ref t, .int p1] M Q ↔ (WI d i_KN_isWithin [.int p1, .int (0 : Int32), .int (255 : Int32)] M (fun x2 M1 => (if x2 = 0 then Q ((-1) : Int32) M1 else (if mC M1 t = 6 then (if (mR M1 t 0) = 999999 then False else (if mC M1 (mR M1 t 0) = 5 then (WI d i_Text_append [.ref (mR M1 t 0), .int p1] M1 (fun x4 M3 => (if x4 = 0 then Q ((-3) : Int32) M3 else (if mC M3 t = 6 then (if (mR M3 t 0) = 999999 then False else (if mC M3 (mR M3 t 0) = 5 then Q (mI M3 (mR M3 t 0) 1) M3 else False)) else False)))) else False)) else False)))) :=
  sy_iff 400 _ _ _ _ _ _ _
set_option maxRecDepth 100000 in
theorem E_KN_clear (d : Nat) (t : Nat) (M : Mem) (Q : Int32 → Mem → Prop) : WI (d + 1) i_KN_clear [.ref t] M Q ↔ (if mC M t = 6 then (if (mR M t 0) = 999999 then False else (if mC M (mR M t 0) = 5 then (if mC M t = 6 then (if (mR M t 0) = 999999 then False else (if mC M (mR M t 0) = 5 then (WV d i_Text_empty [.ref (mR M t 0)] M (fun M1 => Q (mI M (mR M t 0) 1) M1)) else False)) else False) else False)) else False) :=
  sy_iff 400 _ _ _ _ _ _ _
set_option maxRecDepth 100000 in
theorem E_KN_camp (d : Nat) (t : Nat) (M : Mem) (Q : Int32 → Mem → Prop) : WI (d + 1) i_KN_camp [.ref t] M Q ↔ (if mC M t = 6 then (if (mR M t 0) = 999999 then False else (if mC M (mR M t 0) = 5 then (WI d i_Text_fault [.ref (mR M t 0)] M (fun x2 M1 => (if x2 = ((-1) : Int32) then (if mC M1 t = 6 then (if (mR M1 t 0) = 999999 then False else (if mC M1 t = 6 then (if (mR M1 t 1) = 999999 then False else (if mC M1 (mR M1 t 0) = 5 then (WV d i_Text_tell [.ref (mR M1 t 0), .ref (mR M1 t 1)] M1 (fun M3 => (if mC M3 t = 6 then (if (mR M3 t 0) = 999999 then False else (if mC M3 (mR M3 t 0) = 5 then (WV d i_Text_empty [.ref (mR M3 t 0)] M3 (fun M4 => (if mC M4 t = 6 then (if (mR M4 t 2) = 999999 then False else (if mC M4 (mR M4 t 2) = 3 then (WV d i_Past_forget [.ref (mR M4 t 2)] M4 (fun M5 => Wn (d + 1) i_KN_camp 45 [(0, .ref t), (1, .int x2), (2, .int (0 : Int32))] [] M5 (QI Q))) else False)) else False))) else False)) else False))) else False)) else False)) else False) else Q (((-10) : Int32) - x2) M1))) else False)) else False) :=
  sy_iff 400 _ _ _ _ _ _ _
set_option maxRecDepth 100000 in
theorem H_KN_camp_45 (d : Nat) (v0 : Nat) (v1 : Int32) (v2 : Int32) (M : Mem) (Q : Option Value → Mem → Prop) : Wn (d + 1) i_KN_camp 45 [(0, .ref v0), (1, .int v1), (2, .int v2)] [] M Q ↔ (if v2 < (2 : Int32) then (if mC M v0 = 6 then (if (mR M v0 4) = 999999 then False else (if mC M (mR M v0 4) = 12 ∧ inb v2 (mL M (mR M v0 4)) then Wn (d + 1) i_KN_camp 45 [(0, .ref v0), (1, .int v1), (2, .int (v2 + (1 : Int32)))] [] (setI M (mR M v0 4) (Int32.toNatClampNeg v2) (vp_nar .boolean (0 : Int32))) Q else False)) else False) else (if mC M v0 = 6 then (if (mR M v0 1) = 999999 then False else (if mC M (mR M v0 1) = 0 then Q (some (.int (mI M (mR M v0 1) 2))) M else False)) else False)) :=
  sy_iff 400 _ _ _ _ _ _ _
set_option maxRecDepth 100000 in
theorem E_KN_name (d : Nat) (t : Nat) (p1 : Int32) (p2 : Int32) (M : Mem) (Q : Int32 → Mem → Prop) : WI (d + 1) i_KN_name [.ref t, .int p1, .int p2] M Q ↔ (if mC M t = 6 then (if (mR M t 1) = 999999 then False else (if mC M (mR M t 1) = 0 then (WI d i_Camp_has [.ref (mR M t 1), .int p1] M (fun x2 M1 => (if x2 = 0 then Q ((-1) : Int32) M1 else (if mC M1 t = 6 then (if (mR M1 t 1) = 999999 then False else (if mC M1 (mR M1 t 1) = 0 then (WA d i_Camp_nameOf [.ref (mR M1 t 1), .int p1] M1 (fun x4 M3 => (WI d i_KN_lengthOrTurn [.ref x4, .int p2] M3 (fun x6 M5 => Q x6 M5)))) else False)) else False)))) else False)) else False) :=
  sy_iff 400 _ _ _ _ _ _ _
set_option maxRecDepth 100000 in
theorem E_KN_contract (d : Nat) (t : Nat) (p1 : Int32) (M : Mem) (Q : Int32 → Mem → Prop) : WI (d + 1) i_KN_contract [.ref t, .int p1] M Q ↔ (if mC M t = 6 then (if (mR M t 1) = 999999 then False else (if mC M (mR M t 1) = 0 then (if (mR M (mR M t 1) 1) = 999999 then False else (WI d i_KN_lengthOrTurn [.ref (mR M (mR M t 1) 1), .int p1] M (fun x2 M1 => Q x2 M1))) else False)) else False) :=
  sy_iff 400 _ _ _ _ _ _ _
set_option maxRecDepth 100000 in
theorem E_KN_now (d : Nat) (t : Nat) (p1 : Int32) (M : Mem) (Q : Int32 → Mem → Prop) : WI (d + 1) i_KN_now [.ref t, .int p1] M Q ↔ (if Int32.toInt p1 = 0 then (if mC M t = 6 then (if (mR M t 1) = 999999 then False else (if mC M (mR M t 1) = 0 then (WI d i_Camp_named [.ref (mR M t 1)] M (fun x6 M5 => Q x6 M5)) else False)) else False) else (if Int32.toInt p1 = 1 then (if mC M t = 6 then (if (mR M t 1) = 999999 then False else (if mC M (mR M t 1) = 0 then (WI d i_Camp_unlikeNames [.ref (mR M t 1)] M (fun x4 M3 => Q x4 M3)) else False)) else False) else (if Int32.toInt p1 = 2 then (if mC M t = 6 then (if (mR M t 1) = 999999 then False else (if mC M (mR M t 1) = 0 then (WI d i_Camp_turns [.ref (mR M t 1)] M (fun x2 M1 => Q x2 M1)) else False)) else False) else (if Int32.toInt p1 = 3 then (if mC M t = 6 then (if (mR M t 2) = 999999 then False else (if mC M (mR M t 2) = 3 then Q (mI M (mR M t 2) 2) M else False)) else False) else Q ((-1) : Int32) M)))) :=
  sy_iff 400 _ _ _ _ _ _ _
set_option maxRecDepth 100000 in
theorem E_KN_ties (d : Nat) (t : Nat) (p1 : Int32) (p2 : Int32) (M : Mem) (Q : Int32 → Mem → Prop) : WI (d + 1) i_KN_ties [.ref t, .int p1, .int p2] M Q ↔ (if mC M t = 6 then (if (mR M t 1) = 999999 then False else (if mC M (mR M t 1) = 0 then (WI d i_Camp_has [.ref (mR M t 1), .int p1] M (fun x2 M1 => (if x2 = 0 then Q ((-1) : Int32) M1 else (WI d i_KN_isTurn [.int p2] M1 (fun x4 M3 => (if x4 = 0 then Q ((-1) : Int32) M3 else (if mC M3 t = 6 then (if (mR M3 t 1) = 999999 then False else (if mC M3 (mR M3 t 1) = 0 then (WA d i_Camp_nameOf [.ref (mR M3 t 1), .int p1] M3 (fun x6 M5 => (if mC M5 x6 = 4 then (WI d i_Row_takesTight [.ref x6, .int p2] M5 (fun x8 M7 => (if x8 = 0 then Q ((-3) : Int32) M7 else (if mC M7 t = 6 then (if (mR M7 t 2) = 999999 then False else (if mC M7 t = 6 then (if (mR M7 t 1) = 999999 then False else (if mC M7 (mR M7 t 2) = 3 then (WV d i_Past_remember [.ref (mR M7 t 2), .ref (mR M7 t 1)] M7 (fun M9 => (if mC M9 x6 = 4 then (WV d i_Row_appendTight [.ref x6, .int p2] M9 (fun M10 => (if mC M10 x6 = 4 then Q (mI M10 x6 1) M10 else False))) else False))) else False)) else False)) else False)))) else False))) else False)) else False))))))) else False)) else False) :=
  sy_iff 400 _ _ _ _ _ _ _
set_option maxRecDepth 100000 in
theorem E_KN_loosens (d : Nat) (t : Nat) (p1 : Int32) (M : Mem) (Q : Int32 → Mem → Prop) : WI (d + 1) i_KN_loosens [.ref t, .int p1] M Q ↔ (if mC M t = 6 then (if (mR M t 1) = 999999 then False else (if mC M (mR M t 1) = 0 then (WI d i_Camp_has [.ref (mR M t 1), .int p1] M (fun x2 M1 => (if x2 = 0 then Q ((-1) : Int32) M1 else (if mC M1 t = 6 then (if (mR M1 t 1) = 999999 then False else (if mC M1 (mR M1 t 1) = 0 then (WA d i_Camp_nameOf [.ref (mR M1 t 1), .int p1] M1 (fun x4 M3 => (if mC M3 x4 = 4 then (if (mI M3 x4 1) = 0 then Q ((-2) : Int32) M3 else (if mC M3 t = 6 then (if (mR M3 t 2) = 999999 then False else (if mC M3 t = 6 then (if (mR M3 t 1) = 999999 then False else (if mC M3 (mR M3 t 2) = 3 then (WV d i_Past_remember [.ref (mR M3 t 2), .ref (mR M3 t 1)] M3 (fun M5 => (if mC M5 x4 = 4 then (WI d i_Row_last [.ref x4] M5 (fun x7 M6 => (if mC M6 x4 = 4 then (WV d i_Row_dropLast [.ref x4] M6 (fun M8 => Q x7 M8)) else False))) else False))) else False)) else False)) else False)) else False))) else False)) else False)))) else False)) else False) :=
  sy_iff 400 _ _ _ _ _ _ _
set_option maxRecDepth 100000 in
theorem E_KN_bends (d : Nat) (t : Nat) (p1 : Int32) (p2 : Int32) (M : Mem) (Q : Int32 → Mem → Prop) : WI (d + 1) i_KN_bends [.ref t, .int p1, .int p2] M Q ↔ (if mC M t = 6 then (if (mR M t 1) = 999999 then False else (if mC M (mR M t 1) = 0 then (WI d i_Camp_has [.ref (mR M t 1), .int p1] M (fun x2 M1 => (if x2 = 0 then Q ((-1) : Int32) M1 else (if mC M1 t = 6 then (if (mR M1 t 1) = 999999 then False else (if mC M1 (mR M1 t 1) = 0 then (WI d i_Camp_has [.ref (mR M1 t 1), .int p2] M1 (fun x4 M3 => (if x4 = 0 then Q ((-1) : Int32) M3 else (if p1 = p2 then Q ((-1) : Int32) M3 else (if mC M3 t = 6 then (if (mR M3 t 7) = 999999 then False else (if mC M3 t = 6 then (if (mR M3 t 1) = 999999 then False else (if mC M3 (mR M3 t 1) = 0 then (WA d i_Camp_nameOf [.ref (mR M3 t 1), .int p1] M3 (fun x6 M5 => (if mC M5 t = 6 then (if (mR M5 t 1) = 999999 then False else (if mC M5 (mR M5 t 1) = 0 then (WA d i_Camp_nameOf [.ref (mR M5 t 1), .int p2] M5 (fun x8 M7 => (if mC M7 (mR M3 t 7) = 4 then (WV d i_Row_becomeJoined [.ref (mR M3 t 7), .ref x6, .ref x8] M7 (fun M9 => (if mC M9 t = 6 then (if (mR M9 t 8) = 999999 then False else (if mC M9 t = 6 then (if (mR M9 t 1) = 999999 then False else (if mC M9 (mR M9 t 1) = 0 then (WA d i_Camp_nameOf [.ref (mR M9 t 1), .int p2] M9 (fun x11 M10 => (if mC M10 t = 6 then (if (mR M10 t 1) = 999999 then False else (if mC M10 (mR M10 t 1) = 0 then (WA d i_Camp_nameOf [.ref (mR M10 t 1), .int p1] M10 (fun x13 M12 => (if mC M12 (mR M9 t 8) = 4 then (WV d i_Row_becomeJoined [.ref (mR M9 t 8), .ref x11, .ref x13] M12 (fun M14 => (if mC M14 t = 6 then (if (mR M14 t 7) = 999999 then False else (if mC M14 (mR M14 t 7) = 4 then (if (12 : Int32) < (mI M14 (mR M14 t 7) 1) then Q ((-3) : Int32) M14 else (if mC M14 t = 6 then (if (mR M14 t 8) = 999999 then False else (if mC M14 (mR M14 t 8) = 4 then (if (12 : Int32) < (mI M14 (mR M14 t 8) 1) then Q ((-3) : Int32) M14 else (if mC M14 t = 6 then (if (mR M14 t 2) = 999999 then False else (if mC M14 t = 6 then (if (mR M14 t 1) = 999999 then False else (if mC M14 (mR M14 t 2) = 3 then (WV d i_Past_remember [.ref (mR M14 t 2), .ref (mR M14 t 1)] M14 (fun M15 => (if mC M15 t = 6 then (if (mR M15 t 1) = 999999 then False else (if mC M15 (mR M15 t 1) = 0 then (WA d i_Camp_nameOf [.ref (mR M15 t 1), .int p1] M15 (fun x17 M16 => (if mC M16 t = 6 then (if (mR M16 t 7) = 999999 then False else (if mC M16 x17 = 4 then (WV d i_Row_become [.ref x17, .ref (mR M16 t 7)] M16 (fun M18 => (if mC M18 t = 6 then (if (mR M18 t 1) = 999999 then False else (if mC M18 (mR M18 t 1) = 0 then (WA d i_Camp_nameOf [.ref (mR M18 t 1), .int p2] M18 (fun x20 M19 => (if mC M19 t = 6 then (if (mR M19 t 8) = 999999 then False else (if mC M19 x20 = 4 then (WV d i_Row_become [.ref x20, .ref (mR M19 t 8)] M19 (fun M21 => (if mC M21 t = 6 then (if (mR M21 t 7) = 999999 then False else (if mC M21 (mR M21 t 7) = 4 then Q (mI M21 (mR M21 t 7) 1) M21 else False)) else False))) else False)) else False))) else False)) else False))) else False)) else False))) else False)) else False))) else False)) else False)) else False)) else False)) else False)) else False)) else False))) else False))) else False)) else False))) else False)) else False)) else False))) else False))) else False)) else False))) else False)) else False)) else False))))) else False)) else False)))) else False)) else False) :=
  sy_iff 400 _ _ _ _ _ _ _
set_option maxRecDepth 100000 in
theorem E_KN_unties (d : Nat) (t : Nat) (p1 : Int32) (M : Mem) (Q : Int32 → Mem → Prop) : WI (d + 1) i_KN_unties [.ref t, .int p1] M Q ↔ (if mC M t = 6 then (if (mR M t 1) = 999999 then False else (if mC M (mR M t 1) = 0 then (WI d i_Camp_has [.ref (mR M t 1), .int p1] M (fun x2 M1 => (if x2 = 0 then Q ((-1) : Int32) M1 else (if mC M1 t = 6 then (if (mR M1 t 2) = 999999 then False else (if mC M1 t = 6 then (if (mR M1 t 1) = 999999 then False else (if mC M1 (mR M1 t 2) = 3 then (WV d i_Past_remember [.ref (mR M1 t 2), .ref (mR M1 t 1)] M1 (fun M3 => (if mC M3 t = 6 then (if (mR M3 t 1) = 999999 then False else (if mC M3 (mR M3 t 1) = 0 then (WA d i_Camp_nameOf [.ref (mR M3 t 1), .int p1] M3 (fun x5 M4 => (if mC M4 x5 = 4 then (WI d i_Row_empty [.ref x5] M4 (fun x7 M6 => Q x7 M6)) else False))) else False)) else False))) else False)) else False)) else False)))) else False)) else False) :=
  sy_iff 400 _ _ _ _ _ _ _
set_option maxRecDepth 100000 in
theorem E_KN_adds (d : Nat) (t : Nat) (p1 : Int32) (M : Mem) (Q : Int32 → Mem → Prop) : WI (d + 1) i_KN_adds [.ref t, .int p1] M Q ↔ (WI d i_KN_isTurn [.int p1] M (fun x2 M1 => (if x2 = 0 then Q ((-1) : Int32) M1 else (if mC M1 t = 6 then (if (mR M1 t 1) = 999999 then False else (if mC M1 (mR M1 t 1) = 0 then (if (mR M1 (mR M1 t 1) 1) = 999999 then False else (if mC M1 (mR M1 (mR M1 t 1) 1) = 4 then (if (mI M1 (mR M1 (mR M1 t 1) 1) 1) < (12 : Int32) then (if mC M1 t = 6 then (if (mR M1 t 2) = 999999 then False else (if mC M1 t = 6 then (if (mR M1 t 1) = 999999 then False else (if mC M1 (mR M1 t 2) = 3 then (WV d i_Past_remember [.ref (mR M1 t 2), .ref (mR M1 t 1)] M1 (fun M3 => (if mC M3 t = 6 then (if (mR M3 t 1) = 999999 then False else (if mC M3 (mR M3 t 1) = 0 then (if (mR M3 (mR M3 t 1) 1) = 999999 then False else (if mC M3 (mR M3 (mR M3 t 1) 1) = 4 then (WV d i_Row_append [.ref (mR M3 (mR M3 t 1) 1), .int p1] M3 (fun M4 => (if mC M4 t = 6 then (if (mR M4 t 1) = 999999 then False else (if mC M4 (mR M4 t 1) = 0 then (if (mR M4 (mR M4 t 1) 1) = 999999 then False else (if mC M4 (mR M4 (mR M4 t 1) 1) = 4 then Q (mI M4 (mR M4 (mR M4 t 1) 1) 1) M4 else False)) else False)) else False))) else False)) else False)) else False))) else False)) else False)) else False) else Q ((-3) : Int32) M1) else False)) else False)) else False)))) :=
  sy_iff 400 _ _ _ _ _ _ _
set_option maxRecDepth 100000 in
theorem E_KN_tears (d : Nat) (t : Nat) (M : Mem) (Q : Int32 → Mem → Prop) : WI (d + 1) i_KN_tears [.ref t] M Q ↔ (if mC M t = 6 then (if (mR M t 2) = 999999 then False else (if mC M t = 6 then (if (mR M t 1) = 999999 then False else (if mC M (mR M t 2) = 3 then (WV d i_Past_remember [.ref (mR M t 2), .ref (mR M t 1)] M (fun M1 => (if mC M1 t = 6 then (if (mR M1 t 1) = 999999 then False else (if mC M1 (mR M1 t 1) = 0 then (if (mR M1 (mR M1 t 1) 1) = 999999 then False else (if mC M1 (mR M1 (mR M1 t 1) 1) = 4 then (WI d i_Row_empty [.ref (mR M1 (mR M1 t 1) 1)] M1 (fun x3 M2 => Q x3 M2)) else False)) else False)) else False))) else False)) else False)) else False) :=
  sy_iff 400 _ _ _ _ _ _ _
set_option maxRecDepth 100000 in
theorem E_KN_undo (d : Nat) (t : Nat) (M : Mem) (Q : Int32 → Mem → Prop) : WI (d + 1) i_KN_undo [.ref t] M Q ↔ (if mC M t = 6 then (if (mR M t 2) = 999999 then False else (if mC M (mR M t 2) = 3 then (if (mI M (mR M t 2) 2) = 0 then Q ((-2) : Int32) M else (if mC M t = 6 then (if (mR M t 2) = 999999 then False else (if mC M t = 6 then (if (mR M t 1) = 999999 then False else (if mC M (mR M t 2) = 3 then (WV d i_Past_takeBack [.ref (mR M t 2), .ref (mR M t 1)] M (fun M1 => (if mC M1 t = 6 then (if (mR M1 t 2) = 999999 then False else (if mC M1 (mR M1 t 2) = 3 then Q (mI M1 (mR M1 t 2) 2) M1 else False)) else False))) else False)) else False)) else False)) else False)) else False) :=
  sy_iff 400 _ _ _ _ _ _ _
set_option maxRecDepth 100000 in
theorem E_KN_alike (d : Nat) (t : Nat) (p1 : Int32) (M : Mem) (Q : Int32 → Mem → Prop) : WI (d + 1) i_KN_alike [.ref t, .int p1] M Q ↔ (if mC M t = 6 then (if (mR M t 1) = 999999 then False else (if mC M (mR M t 1) = 0 then (WI d i_Camp_has [.ref (mR M t 1), .int p1] M (fun x2 M1 => (if x2 = 0 then Q ((-1) : Int32) M1 else (if mC M1 t = 6 then (if (mR M1 t 1) = 999999 then False else (if mC M1 (mR M1 t 1) = 0 then (WI d i_Camp_calledLike [.ref (mR M1 t 1), .int p1] M1 (fun x4 M3 => Q x4 M3)) else False)) else False)))) else False)) else False) :=
  sy_iff 400 _ _ _ _ _ _ _
set_option maxRecDepth 100000 in
theorem E_KN_ring (d : Nat) (t : Nat) (p1 : Int32) (M : Mem) (Q : Int32 → Mem → Prop) : WI (d + 1) i_KN_ring [.ref t, .int p1] M Q ↔ (if mC M t = 6 then (if (mR M t 1) = 999999 then False else (if mC M (mR M t 1) = 0 then (WI d i_Camp_has [.ref (mR M t 1), .int p1] M (fun x2 M1 => (if x2 = 0 then Q ((-1) : Int32) M1 else Wn (d + 1) i_KN_ring 17 [(0, .ref t), (1, .int p1), (2, .int (0 : Int32)), (3, .int (0 : Int32))] [] M1 (QI Q)))) else False)) else False) :=
  sy_iff 400 _ _ _ _ _ _ _
set_option maxRecDepth 100000 in
theorem H_KN_ring_17 (d : Nat) (v0 : Nat) (v1 : Int32) (v2 : Int32) (v3 : Int32) (M : Mem) (Q : Option Value → Mem → Prop) : Wn (d + 1) i_KN_ring 17 [(0, .ref v0), (1, .int v1), (2, .int v2), (3, .int v3)] [] M Q ↔ (if mC M v0 = 6 then (if (mR M v0 1) = 999999 then False else (if mC M (mR M v0 1) = 0 then (if v3 < (mI M (mR M v0 1) 2) then (if mC M v0 = 6 then (if (mR M v0 1) = 999999 then False else (if mC M (mR M v0 1) = 0 then (WA d i_Camp_nameOf [.ref (mR M v0 1), .int v1] M (fun x2 M1 => (if mC M1 v0 = 6 then (if (mR M1 v0 1) = 999999 then False else (if mC M1 (mR M1 v0 1) = 0 then (WA d i_Camp_nameOf [.ref (mR M1 v0 1), .int v3] M1 (fun x4 M3 => (if mC M3 x2 = 4 then (WI d i_Row_isRingOf [.ref x2, .ref x4] M3 (fun x6 M5 => (if x6 = 0 then Wn (d + 1) i_KN_ring 17 [(0, .ref v0), (1, .int v1), (2, .int v2), (3, .int (v3 + (1 : Int32)))] [] M5 Q else Wn (d + 1) i_KN_ring 17 [(0, .ref v0), (1, .int v1), (2, .int (v2 ||| ((1 : Int32) <<< (v3 &&& 31)))), (3, .int (v3 + (1 : Int32)))] [] M5 Q))) else False))) else False)) else False))) else False)) else False) else Q (some (.int v2)) M) else False)) else False) :=
  sy_iff 400 _ _ _ _ _ _ _
set_option maxRecDepth 100000 in
theorem E_KN_way (d : Nat) (t : Nat) (p1 : Int32) (p2 : Int32) (M : Mem) (Q : Int32 → Mem → Prop) : WI (d + 1) i_KN_way [.ref t, .int p1, .int p2] M Q ↔ (if mC M t = 6 then (if (mR M t 1) = 999999 then False else (if mC M (mR M t 1) = 0 then (WI d i_Camp_has [.ref (mR M t 1), .int p1] M (fun x2 M1 => (if x2 = 0 then Q ((-1) : Int32) M1 else (if mC M1 t = 6 then (if (mR M1 t 1) = 999999 then False else (if mC M1 (mR M1 t 1) = 0 then (WI d i_Camp_has [.ref (mR M1 t 1), .int p2] M1 (fun x4 M3 => (if x4 = 0 then Q ((-1) : Int32) M3 else (if mC M3 t = 6 then (if (mR M3 t 1) = 999999 then False else (if mC M3 (mR M3 t 1) = 0 then (WA d i_Camp_nameOf [.ref (mR M3 t 1), .int p1] M3 (fun x6 M5 => (if mC M5 t = 6 then (if (mR M5 t 1) = 999999 then False else (if mC M5 (mR M5 t 1) = 0 then (WA d i_Camp_nameOf [.ref (mR M5 t 1), .int p2] M5 (fun x8 M7 => (if mC M7 x6 = 4 then (if mC M7 x8 = 4 then (if mC M7 x6 = 4 then (WI d i_Row_commonStart [.ref x6, .ref x8] M7 (fun x10 M9 => Q (((mI M7 x6 1) + (mI M7 x8 1)) - ((2 : Int32) * x10)) M9)) else False) else False) else False))) else False)) else False))) else False)) else False)))) else False)) else False)))) else False)) else False) :=
  sy_iff 400 _ _ _ _ _ _ _
set_option maxRecDepth 100000 in
theorem E_KN_root (d : Nat) (t : Nat) (p1 : Int32) (M : Mem) (Q : Int32 → Mem → Prop) : WI (d + 1) i_KN_root [.ref t, .int p1] M Q ↔ (if mC M t = 6 then (if (mR M t 1) = 999999 then False else (if mC M (mR M t 1) = 0 then (WI d i_Camp_has [.ref (mR M t 1), .int p1] M (fun x2 M1 => (if x2 = 0 then Q ((-1) : Int32) M1 else (if mC M1 t = 6 then (if (mR M1 t 1) = 999999 then False else (if mC M1 (mR M1 t 1) = 0 then (WA d i_Camp_nameOf [.ref (mR M1 t 1), .int p1] M1 (fun x4 M3 => (if mC M3 x4 = 4 then (WI d i_Row_shortestRepeated [.ref x4] M3 (fun x6 M5 => Q x6 M5)) else False))) else False)) else False)))) else False)) else False) :=
  sy_iff 400 _ _ _ _ _ _ _
set_option maxRecDepth 100000 in
theorem E_KN_order (d : Nat) (t : Nat) (p1 : Int32) (M : Mem) (Q : Int32 → Mem → Prop) : WI (d + 1) i_KN_order [.ref t, .int p1] M Q ↔ (if mC M t = 6 then (if (mR M t 1) = 999999 then False else (if mC M (mR M t 1) = 0 then (WI d i_Camp_has [.ref (mR M t 1), .int p1] M (fun x2 M1 => (if x2 = 0 then Q ((-1) : Int32) M1 else Wn (d + 1) i_KN_order 17 [(0, .ref t), (1, .int p1), (2, .int (0 : Int32)), (3, .int (0 : Int32))] [] M1 (QI Q)))) else False)) else False) :=
  sy_iff 400 _ _ _ _ _ _ _
set_option maxRecDepth 100000 in
theorem H_KN_order_17 (d : Nat) (v0 : Nat) (v1 : Int32) (v2 : Int32) (v3 : Int32) (M : Mem) (Q : Option Value → Mem → Prop) : Wn (d + 1) i_KN_order 17 [(0, .ref v0), (1, .int v1), (2, .int v2), (3, .int v3)] [] M Q ↔ (if mC M v0 = 6 then (if (mR M v0 1) = 999999 then False else (if mC M (mR M v0 1) = 0 then (if v3 < (mI M (mR M v0 1) 2) then (if mC M v0 = 6 then (if (mR M v0 1) = 999999 then False else (if mC M (mR M v0 1) = 0 then (WA d i_Camp_nameOf [.ref (mR M v0 1), .int v3] M (fun x2 M1 => (if mC M1 v0 = 6 then (if (mR M1 v0 1) = 999999 then False else (if mC M1 (mR M1 v0 1) = 0 then (WA d i_Camp_nameOf [.ref (mR M1 v0 1), .int v1] M1 (fun x4 M3 => (if mC M3 x2 = 4 then (WI d i_Row_compareWith [.ref x2, .ref x4] M3 (fun x6 M5 => (if x6 < 0 then Wn (d + 1) i_KN_order 17 [(0, .ref v0), (1, .int v1), (2, .int (v2 + (1 : Int32))), (3, .int (v3 + (1 : Int32)))] [] M5 Q else (if x6 = 0 then (if v3 < v1 then Wn (d + 1) i_KN_order 17 [(0, .ref v0), (1, .int v1), (2, .int (v2 + (1 : Int32))), (3, .int (v3 + (1 : Int32)))] [] M5 Q else Wn (d + 1) i_KN_order 17 [(0, .ref v0), (1, .int v1), (2, .int v2), (3, .int (v3 + (1 : Int32)))] [] M5 Q) else Wn (d + 1) i_KN_order 17 [(0, .ref v0), (1, .int v1), (2, .int v2), (3, .int (v3 + (1 : Int32)))] [] M5 Q)))) else False))) else False)) else False))) else False)) else False) else Q (some (.int v2)) M) else False)) else False) :=
  sy_iff 400 _ _ _ _ _ _ _
set_option maxRecDepth 100000 in
theorem E_KN_cold (d : Nat) (t : Nat) (p1 : Int32) (p2 : Int32) (p3 : Int32) (p4 : Int32) (M : Mem) (Q : Int64 → Mem → Prop) : WL (d + 1) i_KN_cold [.ref t, .int p1, .int p2, .int p3, .int p4] M Q ↔ (if mC M t = 6 then (if (mR M t 1) = 999999 then False else (if mC M (mR M t 1) = 0 then (WI d i_Camp_has [.ref (mR M t 1), .int p1] M (fun x2 M1 => (if x2 = 0 then Q ((-1) : Int64) M1 else (if mC M1 t = 6 then (if (mR M1 t 1) = 999999 then False else (if mC M1 (mR M1 t 1) = 0 then (WI d i_Camp_has [.ref (mR M1 t 1), .int p2] M1 (fun x4 M3 => (if x4 = 0 then Q ((-1) : Int64) M3 else (WI d i_KN_isWithin [.int p3, .int (0 : Int32), .int (10 : Int32)] M3 (fun x6 M5 => (if x6 = 0 then Q ((-1) : Int64) M5 else (WI d i_KN_isWithin [.int p4, .int (0 : Int32), .int (1 : Int32)] M5 (fun x8 M7 => (if x8 = 0 then Q ((-1) : Int64) M7 else (if mC M7 t = 6 then (if (mR M7 t 1) = 999999 then False else (if mC M7 (mR M7 t 1) = 0 then (WA d i_Camp_nameOf [.ref (mR M7 t 1), .int p1] M7 (fun x10 M9 => (if mC M9 t = 6 then (if (mR M9 t 1) = 999999 then False else (if mC M9 (mR M9 t 1) = 0 then (WA d i_Camp_nameOf [.ref (mR M9 t 1), .int p2] M9 (fun x12 M11 => (if mC M11 x10 = 4 then (if mC M11 x12 = 4 then (if (mI M11 x10 1) = (mI M11 x12 1) then Wn (d + 1) i_KN_cold 93 [(0, .ref t), (1, .int p1), (2, .int p2), (3, .int p3), (4, .int p4), (5, .ref x10), (6, .ref x12), (7, .long (1 : Int64)), (9, .int (0 : Int32))] [] M11 (QL Q) else (WL d i_KN_leastTerms [.long (0 : Int64), .long (1 : Int64), .int p4] M11 (fun x14 M13 => Q x14 M13))) else False) else False))) else False)) else False))) else False)) else False)))))))))) else False)) else False)))) else False)) else False) :=
  sy_iff 400 _ _ _ _ _ _ _
set_option maxRecDepth 100000 in
theorem H_KN_cold_93 (d : Nat) (v0 : Nat) (v1 : Int32) (v2 : Int32) (v3 : Int32) (v4 : Int32) (v5 : Nat) (v6 : Nat) (v7 : Int64) (v9 : Int32) (M : Mem) (Q : Option Value → Mem → Prop) : Wn (d + 1) i_KN_cold 93 [(0, .ref v0), (1, .int v1), (2, .int v2), (3, .int v3), (4, .int v4), (5, .ref v5), (6, .ref v6), (7, .long v7), (9, .int v9)] [] M Q ↔ (if mC M v5 = 4 then (if v9 < (mI M v5 1) then (if mC M v5 = 4 then (WI d i_Row_at [.ref v5, .int v9] M (fun x2 M1 => (if mC M1 v6 = 4 then (WI d i_Row_at [.ref v6, .int v9] M1 (fun x4 M3 => (WI d i_KN_takenFor [.int x2, .int x4, .int v3] M3 (fun x6 M5 => Wn (d + 1) i_KN_cold 93 [(0, .ref v0), (1, .int v1), (2, .int v2), (3, .int v3), (4, .int v4), (5, .ref v5), (6, .ref v6), (7, .long (v7 * (Int32.toInt64 x6))), (9, .int (v9 + (1 : Int32)))] [] M5 Q)))) else False))) else False) else (if mC M v5 = 4 then (WL d i_KN_power [.int (10 : Int32), .int (mI M v5 1)] M (fun x8 M7 => (WL d i_KN_leastTerms [.long v7, .long x8, .int v4] M7 (fun x10 M9 => Q (some (.long x10)) M9)))) else False)) else False) :=
  sy_iff 400 _ _ _ _ _ _ _
set_option maxRecDepth 100000 in
theorem E_KN_mixed (d : Nat) (t : Nat) (p1 : Int32) (p2 : Int32) (M : Mem) (Q : Int32 → Mem → Prop) : WI (d + 1) i_KN_mixed [.ref t, .int p1, .int p2] M Q ↔ (if mC M t = 6 then (if (mR M t 1) = 999999 then False else (if mC M (mR M t 1) = 0 then (WI d i_Camp_has [.ref (mR M t 1), .int p1] M (fun x2 M1 => (if x2 = 0 then Q ((-1) : Int32) M1 else (WI d i_KN_isWithin [.int p2, .int (0 : Int32), .int (12 : Int32)] M1 (fun x4 M3 => (if x4 = 0 then Q ((-1) : Int32) M3 else (if mC M3 t = 6 then (if (mR M3 t 1) = 999999 then False else (if mC M3 (mR M3 t 1) = 0 then (WA d i_Camp_nameOf [.ref (mR M3 t 1), .int p1] M3 (fun x6 M5 => Wn (d + 1) i_KN_mixed 38 [(0, .ref t), (1, .int p1), (2, .int p2), (3, .ref x6), (4, .int (0 : Int32)), (5, .int (0 : Int32))] [] M5 (QI Q))) else False)) else False))))))) else False)) else False) :=
  sy_iff 400 _ _ _ _ _ _ _
set_option maxRecDepth 100000 in
theorem H_KN_mixed_38 (d : Nat) (v0 : Nat) (v1 : Int32) (v2 : Int32) (v3 : Nat) (v4 : Int32) (v5 : Int32) (M : Mem) (Q : Option Value → Mem → Prop) : Wn (d + 1) i_KN_mixed 38 [(0, .ref v0), (1, .int v1), (2, .int v2), (3, .ref v3), (4, .int v4), (5, .int v5)] [] M Q ↔ (if mC M v0 = 6 then (if (mR M v0 1) = 999999 then False else (if mC M (mR M v0 1) = 0 then (if v5 < (mI M (mR M v0 1) 2) then (if mC M v0 = 6 then (if (mR M v0 1) = 999999 then False else (if mC M (mR M v0 1) = 0 then (WA d i_Camp_nameOf [.ref (mR M v0 1), .int v5] M (fun x2 M1 => (if mC M1 v3 = 4 then (if mC M1 x2 = 4 then (if (mI M1 v3 1) = (mI M1 x2 1) then (if mC M1 v3 = 4 then (WI d i_Row_differences [.ref v3, .ref x2] M1 (fun x4 M3 => (if v2 < x4 then Wn (d + 1) i_KN_mixed 38 [(0, .ref v0), (1, .int v1), (2, .int v2), (3, .ref v3), (4, .int v4), (5, .int (v5 + (1 : Int32)))] [] M3 Q else Wn (d + 1) i_KN_mixed 38 [(0, .ref v0), (1, .int v1), (2, .int v2), (3, .ref v3), (4, .int (v4 ||| ((1 : Int32) <<< (v5 &&& 31)))), (5, .int (v5 + (1 : Int32)))] [] M3 Q))) else False) else Wn (d + 1) i_KN_mixed 38 [(0, .ref v0), (1, .int v1), (2, .int v2), (3, .ref v3), (4, .int v4), (5, .int (v5 + (1 : Int32)))] [] M1 Q) else False) else False))) else False)) else False) else Q (some (.int v4)) M) else False)) else False) :=
  sy_iff 400 _ _ _ _ _ _ _
set_option maxRecDepth 100000 in
theorem E_KN_newName (d : Nat) (t : Nat) (p1 : Int32) (p2 : Int32) (p3 : Int32) (M : Mem) (Q : Int32 → Mem → Prop) : WI (d + 1) i_KN_newName [.ref t, .int p1, .int p2, .int p3] M Q ↔ (WI d i_KN_isWithin [.int p1, .int (1 : Int32), .int (4 : Int32)] M (fun x2 M1 => (if x2 = 0 then Q ((-1) : Int32) M1 else (WI d i_KN_isWithin [.int p2, .int (1 : Int32), .int (4 : Int32)] M1 (fun x4 M3 => (if x4 = 0 then Q ((-1) : Int32) M3 else (WI d i_KN_isWithin [.int p3, .int ((-1) : Int32), .int (p1 - (1 : Int32))] M3 (fun x6 M5 => (if x6 = 0 then Q ((-1) : Int32) M5 else (if mC M5 t = 6 then (if (mR M5 t 6) = 999999 then False else (if mC M5 t = 6 then (if (mR M5 t 1) = 999999 then False else (if mC M5 (mR M5 t 6) = 2 then (WV d i_NewN_find [.ref (mR M5 t 6), .ref (mR M5 t 1), .int p1, .int p2] M5 (fun M7 => (if p3 = ((-1) : Int32) then (if mC M7 t = 6 then (if (mR M7 t 6) = 999999 then False else (if mC M7 (mR M7 t 6) = 2 then Q (mI M7 (mR M7 t 6) 2) M7 else False)) else False) else (if mC M7 t = 6 then (if (mR M7 t 6) = 999999 then False else (if mC M7 (mR M7 t 6) = 2 then (if (mI M7 (mR M7 t 6) 2) = 0 then Q ((-9) : Int32) M7 else (if mC M7 t = 6 then (if (mR M7 t 6) = 999999 then False else (if mC M7 (mR M7 t 6) = 2 then (if (mR M7 (mR M7 t 6) 0) = 999999 then False else (if mC M7 (mR M7 (mR M7 t 6) 0) = 4 then (WI d i_Row_at [.ref (mR M7 (mR M7 t 6) 0), .int p3] M7 (fun x9 M8 => Q x9 M8)) else False)) else False)) else False)) else False)) else False)))) else False)) else False)) else False)))))))))) :=
  sy_iff 400 _ _ _ _ _ _ _
set_option maxRecDepth 100000 in
theorem E_KN_pulls (d : Nat) (t : Nat) (p1 : Int32) (M : Mem) (Q : Int32 → Mem → Prop) : WI (d + 1) i_KN_pulls [.ref t, .int p1] M Q ↔ (if mC M t = 6 then (if (mR M t 9) = 999999 then False else (if mC M t = 6 then (if (mR M t 1) = 999999 then False else (if mC M (mR M t 1) = 0 then (if (mR M (mR M t 1) 1) = 999999 then False else (if mC M (mR M t 9) = 4 then (WV d i_Row_becomeTight [.ref (mR M t 9), .ref (mR M (mR M t 1) 1)] M (fun M1 => (if Int32.toInt p1 = 0 then (if mC M1 t = 6 then (if (mR M1 t 9) = 999999 then False else (if mC M1 (mR M1 t 9) = 4 then (if (mI M1 (mR M1 t 9) 1) = 0 then Q (1 : Int32) M1 else Q (0 : Int32) M1) else False)) else False) else (if Int32.toInt p1 = 1 then (if mC M1 t = 6 then (if (mR M1 t 9) = 999999 then False else (if mC M1 (mR M1 t 9) = 4 then Q (mI M1 (mR M1 t 9) 1) M1 else False)) else False) else (if Int32.toInt p1 = 2 then (if mC M1 t = 6 then (if (mR M1 t 1) = 999999 then False else (if mC M1 (mR M1 t 1) = 0 then (if (mR M1 (mR M1 t 1) 1) = 999999 then False else (if mC M1 (mR M1 (mR M1 t 1) 1) = 4 then (if mC M1 t = 6 then (if (mR M1 t 1) = 999999 then False else (if mC M1 (mR M1 t 1) = 0 then (if (mR M1 (mR M1 t 1) 1) = 999999 then False else (if mC M1 t = 6 then (WI d i_KN_mostPairs [.ref t, .ref (mR M1 (mR M1 t 1) 1)] M1 (fun x3 M2 => Q ((mI M1 (mR M1 (mR M1 t 1) 1) 1) - ((2 : Int32) * x3)) M2)) else False)) else False)) else False) else False)) else False)) else False) else (if Int32.toInt p1 = 3 then (if mC M1 t = 6 then (if (mR M1 t 1) = 999999 then False else (if mC M1 (mR M1 t 1) = 0 then (if (mR M1 (mR M1 t 1) 1) = 999999 then False else (if mC M1 (mR M1 (mR M1 t 1) 1) = 4 then (if mC M1 t = 6 then (if (mR M1 t 9) = 999999 then False else (if mC M1 (mR M1 t 9) = 4 then Q (((mI M1 (mR M1 (mR M1 t 1) 1) 1) - (mI M1 (mR M1 t 9) 1)) / (2 : Int32)) M1 else False)) else False) else False)) else False)) else False) else Q ((-1) : Int32) M1)))))) else False)) else False)) else False)) else False) :=
  sy_iff 400 _ _ _ _ _ _ _
set_option maxRecDepth 100000 in
theorem E_KN_lives (d : Nat) (t : Nat) (p1 : Int32) (M : Mem) (Q : Int32 → Mem → Prop) : WI (d + 1) i_KN_lives [.ref t, .int p1] M Q ↔ (if p1 < ((-1) : Int32) then Q ((-1) : Int32) M else (if mC M t = 6 then (if (mR M t 5) = 999999 then False else (if mC M t = 6 then (if (mR M t 1) = 999999 then False else (if mC M (mR M t 5) = 1 then (WV d i_Lives_readBack [.ref (mR M t 5), .ref (mR M t 1)] M (fun M1 => (if p1 = ((-1) : Int32) then (if mC M1 t = 6 then (if (mR M1 t 5) = 999999 then False else (if mC M1 (mR M1 t 5) = 1 then Q (mI M1 (mR M1 t 5) 6) M1 else False)) else False) else (if mC M1 t = 6 then (if (mR M1 t 5) = 999999 then False else (if mC M1 (mR M1 t 5) = 1 then (if (mI M1 (mR M1 t 5) 6) = 0 then Q ((-9) : Int32) M1 else (if mC M1 t = 6 then (if (mR M1 t 5) = 999999 then False else (if mC M1 (mR M1 t 5) = 1 then (if p1 < (mI M1 (mR M1 t 5) 5) then (if mC M1 t = 6 then (if (mR M1 t 5) = 999999 then False else (if mC M1 (mR M1 t 5) = 1 then (if (mR M1 (mR M1 t 5) 3) = 999999 then False else (if rdI (mC M1 (mR M1 (mR M1 t 5) 3)) ∧ inb p1 (mL M1 (mR M1 (mR M1 t 5) 3)) then Q (mI M1 (mR M1 (mR M1 t 5) 3) (Int32.toNatClampNeg p1)) M1 else False)) else False)) else False) else Q ((-5) : Int32) M1) else False)) else False)) else False)) else False)))) else False)) else False)) else False)) :=
  sy_iff 400 _ _ _ _ _ _ _
set_option maxRecDepth 100000 in
theorem E_KN_next (d : Nat) (t : Nat) (M : Mem) (Q : Int32 → Mem → Prop) : WI (d + 1) i_KN_next [.ref t] M Q ↔ (if mC M t = 6 then (if (mR M t 5) = 999999 then False else (if mC M t = 6 then (if (mR M t 1) = 999999 then False else (if mC M (mR M t 5) = 1 then (WV d i_Lives_readBack [.ref (mR M t 5), .ref (mR M t 1)] M (fun M1 => (if mC M1 t = 6 then (if (mR M1 t 5) = 999999 then False else (if mC M1 (mR M1 t 5) = 1 then (if (mI M1 (mR M1 t 5) 6) = 0 then Q ((-9) : Int32) M1 else (if mC M1 t = 6 then (if (mR M1 t 5) = 999999 then False else (if mC M1 (mR M1 t 5) = 1 then (WI d i_Lives_inMost [.ref (mR M1 t 5)] M1 (fun x3 M2 => Q x3 M2)) else False)) else False)) else False)) else False))) else False)) else False)) else False) :=
  sy_iff 400 _ _ _ _ _ _ _
set_option maxRecDepth 100000 in
theorem E_KN_porridge (d : Nat) (t : Nat) (p1 : Int32) (p2 : Int32) (p3 : Int32) (p4 : Int32) (M : Mem) (Q : Int32 → Mem → Prop) : WI (d + 1) i_KN_porridge [.ref t, .int p1, .int p2, .int p3, .int p4] M Q ↔ (WI d i_KN_isWithin [.int p1, .int (0 : Int32), .int (10 : Int32)] M (fun x2 M1 => (if x2 = 0 then Q ((-1) : Int32) M1 else (WI d i_KN_isWithin [.int p2, .int (0 : Int32), .int (6 : Int32)] M1 (fun x4 M3 => (if x4 = 0 then Q ((-1) : Int32) M3 else (WI d i_KN_isWithin [.int p3, .int (0 : Int32), .int (6 : Int32)] M3 (fun x6 M5 => (if x6 = 0 then Q ((-1) : Int32) M5 else (WI d i_KN_isWithin [.int p4, .int (0 : Int32), .int (1 : Int32)] M5 (fun x8 M7 => (if x8 = 0 then Q ((-1) : Int32) M7 else Wn (d + 1) i_KN_porridge 48 [(0, .ref t), (1, .int p1), (2, .int p2), (3, .int p3), (4, .int p4), (5, .long (0 : Int64)), (7, .int (0 : Int32))] [] M7 (QI Q))))))))))))) :=
  sy_iff 400 _ _ _ _ _ _ _
set_option maxRecDepth 100000 in
theorem H_KN_porridge_48 (d : Nat) (v0 : Nat) (v1 : Int32) (v2 : Int32) (v3 : Int32) (v4 : Int32) (v5 : Int64) (v7 : Int32) (M : Mem) (Q : Option Value → Mem → Prop) : Wn (d + 1) i_KN_porridge 48 [(0, .ref v0), (1, .int v1), (2, .int v2), (3, .int v3), (4, .int v4), (5, .long v5), (7, .int v7)] [] M Q ↔ (if v7 < ((1 : Int32) <<< (v2 &&& 31)) then (WI d i_JInt_bitCount [.int v7] M (fun x2 M1 => (if (if 0 ≤ (x2 - (v2 - x2)) then (x2 - (v2 - x2)) else 0 - (x2 - (v2 - x2))) = v3 then (WL d i_KN_power [.int v1, .int x2] M1 (fun x4 M3 => (WL d i_KN_power [.int ((10 : Int32) - v1), .int (v2 - x2)] M3 (fun x6 M5 => Wn (d + 1) i_KN_porridge 48 [(0, .ref v0), (1, .int v1), (2, .int v2), (3, .int v3), (4, .int v4), (5, .long (v5 + (x4 * x6))), (7, .int (v7 + (1 : Int32)))] [] M5 Q)))) else Wn (d + 1) i_KN_porridge 48 [(0, .ref v0), (1, .int v1), (2, .int v2), (3, .int v3), (4, .int v4), (5, .long v5), (7, .int (v7 + (1 : Int32)))] [] M1 Q))) else (WL d i_KN_power [.int (10 : Int32), .int v2] M (fun x8 M7 => (WL d i_KN_leastTerms [.long v5, .long x8, .int v4] M7 (fun x10 M9 => Q (some (.int (Int64.toInt32 x10))) M9))))) :=
  sy_iff 400 _ _ _ _ _ _ _
set_option maxRecDepth 100000 in
theorem E_KN_share (d : Nat) (t : Nat) (p1 : Int32) (p2 : Int32) (M : Mem) (Q : Int32 → Mem → Prop) : WI (d + 1) i_KN_share [.ref t, .int p1, .int p2] M Q ↔ (if mC M t = 6 then (if (mR M t 1) = 999999 then False else (if mC M (mR M t 1) = 0 then (WI d i_Camp_has [.ref (mR M t 1), .int p1] M (fun x2 M1 => (if x2 = 0 then Q ((-1) : Int32) M1 else (WI d i_KN_isWithin [.int p2, .int (1 : Int32), .int (99 : Int32)] M1 (fun x4 M3 => (if x4 = 0 then Q ((-1) : Int32) M3 else (if mC M3 t = 6 then (if (mR M3 t 1) = 999999 then False else (if mC M3 (mR M3 t 1) = 0 then (WI d i_Camp_unlikeNames [.ref (mR M3 t 1)] M3 (fun x6 M5 => (if mC M5 t = 6 then (if (mR M5 t 1) = 999999 then False else (if mC M5 (mR M5 t 1) = 0 then (WI d i_Camp_calledLike [.ref (mR M5 t 1), .int p1] M5 (fun x8 M7 => (WI d i_JInt_bitCount [.int x8] M7 (fun x10 M9 => (if (if (1 : Int32) < x6 then x6 else (1 : Int32)) = 0 then False else (if (if (1 : Int32) < x10 then x10 else (1 : Int32)) = 0 then False else Q ((p2 / (if (1 : Int32) < x6 then x6 else (1 : Int32))) / (if (1 : Int32) < x10 then x10 else (1 : Int32))) M9)))))) else False)) else False))) else False)) else False))))))) else False)) else False) :=
  sy_iff 400 _ _ _ _ _ _ _
set_option maxRecDepth 100000 in
theorem E_KN_rate (d : Nat) (t : Nat) (p1 : Int32) (p2 : Int32) (M : Mem) (Q : Int32 → Mem → Prop) : WI (d + 1) i_KN_rate [.ref t, .int p1, .int p2] M Q ↔ (if mC M t = 6 then (if (mR M t 1) = 999999 then False else (if mC M (mR M t 1) = 0 then (WI d i_Camp_has [.ref (mR M t 1), .int p2] M (fun x2 M1 => (if x2 = 0 then Q ((-1000000) : Int32) M1 else (if Int32.toInt p1 = 0 then (if mC M1 t = 6 then (WI d i_KN_asHerder [.ref t, .int p2] M1 (fun x14 M13 => Q x14 M13)) else False) else (if Int32.toInt p1 = 1 then (if mC M1 t = 6 then (WI d i_KN_asChief [.ref t, .int p2] M1 (fun x12 M11 => Q x12 M11)) else False) else (if Int32.toInt p1 = 2 then (if mC M1 t = 6 then (WI d i_KN_asLiar [.ref t, .int p2] M1 (fun x10 M9 => Q x10 M9)) else False) else (if Int32.toInt p1 = 3 then (if mC M1 t = 6 then (WI d i_KN_asFist [.ref t, .int p2] M1 (fun x8 M7 => Q x8 M7)) else False) else (if Int32.toInt p1 = 4 then (if mC M1 t = 6 then (WI d i_KN_asThief [.ref t, .int p2] M1 (fun x6 M5 => Q x6 M5)) else False) else (if Int32.toInt p1 = 5 then (if mC M1 t = 6 then (WI d i_KN_asWidow [.ref t, .int p2] M1 (fun x4 M3 => Q x4 M3)) else False) else Q ((-1000000) : Int32) M1))))))))) else False)) else False) :=
  sy_iff 400 _ _ _ _ _ _ _
set_option maxRecDepth 100000 in
theorem E_KN_keep (d : Nat) (t : Nat) (p1 : Int32) (M : Mem) (Q : Int32 → Mem → Prop) : WI (d + 1) i_KN_keep [.ref t, .int p1] M Q ↔ (WI d i_KN_isWithin [.int p1, .int (0 : Int32), .int (1 : Int32)] M (fun x2 M1 => (if x2 = 0 then Q ((-1) : Int32) M1 else (if mC M1 t = 6 then (if (mR M1 t 3) = 999999 then False else (if (rdA (mC M1 (mR M1 t 3)) ∧ inb p1 (mL M1 (mR M1 t 3))) ∧ (mR M1 (mR M1 t 3) (Int32.toNatClampNeg p1)) ≠ 999999 then (if mC M1 t = 6 then (if (mR M1 t 1) = 999999 then False else (if mC M1 (mR M1 (mR M1 t 3) (Int32.toNatClampNeg p1)) = 0 then (WV d i_Camp_become [.ref (mR M1 (mR M1 t 3) (Int32.toNatClampNeg p1)), .ref (mR M1 t 1)] M1 (fun M3 => (if mC M3 t = 6 then (if (mR M3 t 4) = 999999 then False else (if mC M3 (mR M3 t 4) = 12 ∧ inb p1 (mL M3 (mR M3 t 4)) then (if mC (setI M3 (mR M3 t 4) (Int32.toNatClampNeg p1) (vp_nar .boolean (1 : Int32))) t = 6 then (if (mR (setI M3 (mR M3 t 4) (Int32.toNatClampNeg p1) (vp_nar .boolean (1 : Int32))) t 1) = 999999 then False else (if mC (setI M3 (mR M3 t 4) (Int32.toNatClampNeg p1) (vp_nar .boolean (1 : Int32))) (mR (setI M3 (mR M3 t 4) (Int32.toNatClampNeg p1) (vp_nar .boolean (1 : Int32))) t 1) = 0 then (WI d i_Camp_turns [.ref (mR (setI M3 (mR M3 t 4) (Int32.toNatClampNeg p1) (vp_nar .boolean (1 : Int32))) t 1)] (setI M3 (mR M3 t 4) (Int32.toNatClampNeg p1) (vp_nar .boolean (1 : Int32))) (fun x5 M4 => Q x5 M4)) else False)) else False) else False)) else False))) else False)) else False) else False)) else False)))) :=
  sy_iff 400 _ _ _ _ _ _ _
set_option maxRecDepth 100000 in
theorem E_KN_back (d : Nat) (t : Nat) (p1 : Int32) (M : Mem) (Q : Int32 → Mem → Prop) : WI (d + 1) i_KN_back [.ref t, .int p1] M Q ↔ (WI d i_KN_isWithin [.int p1, .int (0 : Int32), .int (1 : Int32)] M (fun x2 M1 => (if x2 = 0 then Q ((-1) : Int32) M1 else (if mC M1 t = 6 then (if (mR M1 t 4) = 999999 then False else (if rdB (mC M1 (mR M1 t 4)) ∧ inb p1 (mL M1 (mR M1 t 4)) then (if (mI M1 (mR M1 t 4) (Int32.toNatClampNeg p1)) = 0 then Q ((-2) : Int32) M1 else (if mC M1 t = 6 then (if (mR M1 t 1) = 999999 then False else (if mC M1 t = 6 then (if (mR M1 t 3) = 999999 then False else (if (rdA (mC M1 (mR M1 t 3)) ∧ inb p1 (mL M1 (mR M1 t 3))) ∧ (mR M1 (mR M1 t 3) (Int32.toNatClampNeg p1)) ≠ 999999 then (if mC M1 (mR M1 t 1) = 0 then (WV d i_Camp_become [.ref (mR M1 t 1), .ref (mR M1 (mR M1 t 3) (Int32.toNatClampNeg p1))] M1 (fun M3 => (if mC M3 t = 6 then (if (mR M3 t 2) = 999999 then False else (if mC M3 (mR M3 t 2) = 3 then (WV d i_Past_forget [.ref (mR M3 t 2)] M3 (fun M4 => (if mC M4 t = 6 then (if (mR M4 t 1) = 999999 then False else (if mC M4 (mR M4 t 1) = 0 then (WI d i_Camp_turns [.ref (mR M4 t 1)] M4 (fun x6 M5 => Q x6 M5)) else False)) else False))) else False)) else False))) else False) else False)) else False)) else False)) else False)) else False)))) :=
  sy_iff 400 _ _ _ _ _ _ _
set_option maxRecDepth 100000 in
theorem E_KN_count (d : Nat) (t : Nat) (p1 : Int32) (M : Mem) (Q : Int32 → Mem → Prop) : WI d i_KN_count [.ref t, .int p1] M Q ↔ (if Int32.toInt p1 = 0 then (if mC M t = 6 then (if (mR M t 1) = 999999 then False else (if mC M (mR M t 1) = 0 then Q (mI M (mR M t 1) 2) M else False)) else False) else (if Int32.toInt p1 = 1 then (if mC M t = 6 then (if (mR M t 0) = 999999 then False else (if mC M (mR M t 0) = 5 then Q (mI M (mR M t 0) 1) M else False)) else False) else Q ((-1) : Int32) M)) :=
  sy_iff 400 _ _ _ _ _ _ _
set_option maxRecDepth 100000 in
theorem E_KN_trace (d : Nat) (t : Nat) (M : Mem) (Q : Int64 → Mem → Prop) : WL d i_KN_trace [.ref t] M Q ↔ (if mC M t = 6 then Q (mJ M t 11) M else False) :=
  sy_iff 400 _ _ _ _ _ _ _
set_option maxRecDepth 100000 in
theorem E_KN_asHerder (d : Nat) (t : Nat) (p1 : Int32) (M : Mem) (Q : Int32 → Mem → Prop) : WI (d + 1) i_KN_asHerder [.ref t, .int p1] M Q ↔ (if mC M t = 6 then (if mC M t = 6 then (if mC (setJ M t 11 ((mJ M t 11) + (1 : Int64))) t = 6 then (if (mR (setJ M t 11 ((mJ M t 11) + (1 : Int64))) t 1) = 999999 then False else (if mC (setJ M t 11 ((mJ M t 11) + (1 : Int64))) (mR (setJ M t 11 ((mJ M t 11) + (1 : Int64))) t 1) = 0 then (WA d i_Camp_nameOf [.ref (mR (setJ M t 11 ((mJ M t 11) + (1 : Int64))) t 1), .int p1] (setJ M t 11 ((mJ M t 11) + (1 : Int64))) (fun x2 M1 => (if mC M1 x2 = 4 then Q (mI M1 x2 1) M1 else False))) else False)) else False) else False) else False) :=
  sy_iff 400 _ _ _ _ _ _ _
set_option maxRecDepth 100000 in
theorem E_KN_asChief (d : Nat) (t : Nat) (p1 : Int32) (M : Mem) (Q : Int32 → Mem → Prop) : WI (d + 1) i_KN_asChief [.ref t, .int p1] M Q ↔ (if mC M t = 6 then (if mC M t = 6 then (if mC (setJ M t 11 ((mJ M t 11) + (10 : Int64))) t = 6 then (if (mR (setJ M t 11 ((mJ M t 11) + (10 : Int64))) t 1) = 999999 then False else (if mC (setJ M t 11 ((mJ M t 11) + (10 : Int64))) (mR (setJ M t 11 ((mJ M t 11) + (10 : Int64))) t 1) = 0 then (WA d i_Camp_nameOf [.ref (mR (setJ M t 11 ((mJ M t 11) + (10 : Int64))) t 1), .int p1] (setJ M t 11 ((mJ M t 11) + (10 : Int64))) (fun x2 M1 => (if mC M1 t = 6 then (WI d i_KN_asHerder [.ref t, .int p1] M1 (fun x4 M3 => (if mC M3 x2 = 4 then (if (mI M3 x2 1) = 0 then Q (x4 + (0 : Int32)) M3 else (if mC M3 x2 = 4 then (WI d i_Row_last [.ref x2] M3 (fun x6 M5 => Q (x4 + x6) M5)) else False)) else False))) else False))) else False)) else False) else False) else False) :=
  sy_iff 400 _ _ _ _ _ _ _
set_option maxRecDepth 100000 in
theorem E_KN_asLiar (d : Nat) (t : Nat) (p1 : Int32) (M : Mem) (Q : Int32 → Mem → Prop) : WI (d + 1) i_KN_asLiar [.ref t, .int p1] M Q ↔ (if mC M t = 6 then (if mC M t = 6 then (if mC (setJ M t 11 ((mJ M t 11) + (100 : Int64))) t = 6 then (WI d i_KN_asHerder [.ref t, .int p1] (setJ M t 11 ((mJ M t 11) + (100 : Int64))) (fun x2 M1 => (if mC M1 t = 6 then (if (mR M1 t 1) = 999999 then False else (if mC M1 (mR M1 t 1) = 0 then (WI d i_Camp_calledLike [.ref (mR M1 t 1), .int p1] M1 (fun x4 M3 => (WI d i_JInt_bitCount [.int x4] M3 (fun x6 M5 => Q (x2 - x6) M5)))) else False)) else False))) else False) else False) else False) :=
  sy_iff 400 _ _ _ _ _ _ _
set_option maxRecDepth 100000 in
theorem E_KN_asFist (d : Nat) (t : Nat) (p1 : Int32) (M : Mem) (Q : Int32 → Mem → Prop) : WI (d + 1) i_KN_asFist [.ref t, .int p1] M Q ↔ (if mC M t = 6 then (if mC M t = 6 then (if mC (setJ M t 11 ((mJ M t 11) + (1000 : Int64))) t = 6 then (WI d i_KN_asChief [.ref t, .int p1] (setJ M t 11 ((mJ M t 11) + (1000 : Int64))) (fun x2 M1 => Q ((2 : Int32) * x2) M1)) else False) else False) else False) :=
  sy_iff 400 _ _ _ _ _ _ _
set_option maxRecDepth 100000 in
theorem E_KN_asThief (d : Nat) (t : Nat) (p1 : Int32) (M : Mem) (Q : Int32 → Mem → Prop) : WI (d + 1) i_KN_asThief [.ref t, .int p1] M Q ↔ (if mC M t = 6 then (if mC M t = 6 then (if mC (setJ M t 11 ((mJ M t 11) + (10000 : Int64))) t = 6 then (WI d i_KN_asLiar [.ref t, .int p1] (setJ M t 11 ((mJ M t 11) + (10000 : Int64))) (fun x2 M1 => Q (x2 + p1) M1)) else False) else False) else False) :=
  sy_iff 400 _ _ _ _ _ _ _
set_option maxRecDepth 100000 in
theorem E_KN_asWidow (d : Nat) (t : Nat) (p1 : Int32) (M : Mem) (Q : Int32 → Mem → Prop) : WI (d + 1) i_KN_asWidow [.ref t, .int p1] M Q ↔ (if mC M t = 6 then (if mC M t = 6 then (if mC (setJ M t 11 ((mJ M t 11) + (100000 : Int64))) t = 6 then (WI d i_KN_asHerder [.ref t, .int p1] (setJ M t 11 ((mJ M t 11) + (100000 : Int64))) (fun x2 M1 => (if mC M1 t = 6 then (if (mR M1 t 1) = 999999 then False else (if mC M1 (mR M1 t 1) = 0 then (WA d i_Camp_nameOf [.ref (mR M1 t 1), .int p1] M1 (fun x4 M3 => (if mC M3 x4 = 4 then (WI d i_Row_shortestRepeated [.ref x4] M3 (fun x6 M5 => Q (x2 + x6) M5)) else False))) else False)) else False))) else False) else False) else False) :=
  sy_iff 400 _ _ _ _ _ _ _
set_option maxRecDepth 100000 in
theorem E_KN_isWithin (d : Nat) (p1 : Int32) (p2 : Int32) (p3 : Int32) (M : Mem) (Q : Int32 → Mem → Prop) : WI d i_KN_isWithin [.int p1, .int p2, .int p3] M Q ↔ (if p1 < p2 then Q (0 : Int32) M else (if p3 < p1 then Q (0 : Int32) M else Q (1 : Int32) M)) :=
  sy_iff 400 _ _ _ _ _ _ _
set_option maxRecDepth 100000 in
theorem E_KN_isTurn (d : Nat) (p1 : Int32) (M : Mem) (Q : Int32 → Mem → Prop) : WI (d + 1) i_KN_isTurn [.int p1] M Q ↔ (WI d i_KN_isWithin [.int p1, .int (0 : Int32), .int (5 : Int32)] M (fun x2 M1 => (if x2 = 0 ∨ x2 = 1 then Q x2 M1 else False))) :=
  sy_iff 400 _ _ _ _ _ _ _
set_option maxRecDepth 100000 in
theorem E_KN_undoing (d : Nat) (p1 : Int32) (M : Mem) (Q : Int32 → Mem → Prop) : WI d i_KN_undoing [.int p1] M Q ↔ Q (p1 ^^^ (1 : Int32)) M :=
  sy_iff 400 _ _ _ _ _ _ _
set_option maxRecDepth 100000 in
theorem E_KN_lengthOrTurn (d : Nat) (p1 : Nat) (p2 : Int32) (M : Mem) (Q : Int32 → Mem → Prop) : WI (d + 1) i_KN_lengthOrTurn [.ref p1, .int p2] M Q ↔ (if p2 = ((-1) : Int32) then (if mC M p1 = 4 then Q (mI M p1 1) M else False) else (if mC M p1 = 4 then (WI d i_KN_isWithin [.int p2, .int (0 : Int32), .int ((mI M p1 1) - (1 : Int32))] M (fun x2 M1 => (if x2 = 0 then Q ((-1) : Int32) M1 else (if mC M1 p1 = 4 then (WI d i_Row_at [.ref p1, .int p2] M1 (fun x4 M3 => Q x4 M3)) else False)))) else False)) :=
  sy_iff 400 _ _ _ _ _ _ _
set_option maxRecDepth 100000 in
theorem E_KN_takenFor (d : Nat) (p1 : Int32) (p2 : Int32) (p3 : Int32) (M : Mem) (Q : Int32 → Mem → Prop) : WI d i_KN_takenFor [.int p1, .int p2, .int p3] M Q ↔ (if p1 = p2 then Q ((10 : Int32) - p3) M else (if p2 = ((p1 + (1 : Int32)) - (p1 + (1 : Int32)) / (6 : Int32) * (6 : Int32)) then Q p3 M else Q (0 : Int32) M)) :=
  sy_iff 400 _ _ _ _ _ _ _
set_option maxRecDepth 100000 in
theorem E_KN_power (d : Nat) (p1 : Int32) (p2 : Int32) (M : Mem) (Q : Int64 → Mem → Prop) : WL d i_KN_power [.int p1, .int p2] M Q ↔ Wn d i_KN_power 5 [(0, .int p1), (1, .int p2), (2, .long (1 : Int64)), (4, .int (0 : Int32))] [] M (QL Q) :=
  sy_iff 400 _ _ _ _ _ _ _
set_option maxRecDepth 100000 in
theorem H_KN_power_5 (d : Nat) (v0 : Int32) (v1 : Int32) (v2 : Int64) (v4 : Int32) (M : Mem) (Q : Option Value → Mem → Prop) : Wn d i_KN_power 5 [(0, .int v0), (1, .int v1), (2, .long v2), (4, .int v4)] [] M Q ↔ (if v4 < v1 then Wn d i_KN_power 5 [(0, .int v0), (1, .int v1), (2, .long (v2 * (Int32.toInt64 v0))), (4, .int (v4 + (1 : Int32)))] [] M Q else Q (some (.long v2)) M) :=
  sy_iff 400 _ _ _ _ _ _ _
set_option maxRecDepth 100000 in
theorem E_KN_leastTerms (d : Nat) (p1 : Int64) (p2 : Int64) (p3 : Int32) (M : Mem) (Q : Int64 → Mem → Prop) : WL (d + 1) i_KN_leastTerms [.long p1, .long p2, .int p3] M Q ↔ (WL d i_KN_commonDivisor [.long p1, .long p2] M (fun x2 M1 => (if p3 = 0 then (if (if x2 < (1 : Int64) then (1 : Int64) else x2) = 0 then False else Q (p1 / (if x2 < (1 : Int64) then (1 : Int64) else x2)) M1) else (if (if x2 < (1 : Int64) then (1 : Int64) else x2) = 0 then False else Q (p2 / (if x2 < (1 : Int64) then (1 : Int64) else x2)) M1)))) :=
  sy_iff 400 _ _ _ _ _ _ _
set_option maxRecDepth 100000 in
theorem E_KN_commonDivisor (d : Nat) (p1 : Int64) (p2 : Int64) (M : Mem) (Q : Int64 → Mem → Prop) : WL d i_KN_commonDivisor [.long p1, .long p2] M Q ↔ Wn d i_KN_commonDivisor 3 [(0, .long p1), (2, .long p2), (4, .int (0 : Int32))] [] M (QL Q) :=
  sy_iff 400 _ _ _ _ _ _ _
set_option maxRecDepth 100000 in
theorem H_KN_commonDivisor_3 (d : Nat) (v0 : Int64) (v2 : Int64) (v4 : Int32) (M : Mem) (Q : Option Value → Mem → Prop) : Wn d i_KN_commonDivisor 3 [(0, .long v0), (2, .long v2), (4, .int v4)] [] M Q ↔ (if v4 < (128 : Int32) then (if (lg_cmp v2 (0 : Int64)) = 0 then Q (some (.long v0)) M else (if v2 = 0 then False else Wn d i_KN_commonDivisor 3 [(0, .long v2), (2, .long (v0 - v0 / v2 * v2)), (4, .int (v4 + (1 : Int32)))] [] M Q)) else Q (some (.long v0)) M) :=
  sy_iff 400 _ _ _ _ _ _ _
set_option maxRecDepth 100000 in
theorem E_KN_mostPairs (d : Nat) (t : Nat) (p1 : Nat) (M : Mem) (Q : Int32 → Mem → Prop) : WI (d + 1) i_KN_mostPairs [.ref t, .ref p1] M Q ↔ (if mC M p1 = 4 then Wn (d + 1) i_KN_mostPairs 12 [(0, .ref t), (1, .ref p1), (2, .int (if (12 : Int32) < (mI M p1 1) then (12 : Int32) else (mI M p1 1))), (3, .int (if (12 : Int32) < (mI M p1 1) then (12 : Int32) else (mI M p1 1)))] [] M (QI Q) else False) :=
  sy_iff 400 _ _ _ _ _ _ _
set_option maxRecDepth 100000 in
theorem H_KN_mostPairs_12 (d : Nat) (v0 : Nat) (v1 : Nat) (v2 : Int32) (v3 : Int32) (M : Mem) (Q : Option Value → Mem → Prop) : Wn (d + 1) i_KN_mostPairs 12 [(0, .ref v0), (1, .ref v1), (2, .int v2), (3, .int v3)] [] M Q ↔ (if v3 < 0 then (if mC M v0 = 6 then (if (mR M v0 10) = 999999 then False else (if (rdA (mC M (mR M v0 10)) ∧ inb (0 : Int32) (mL M (mR M v0 10))) ∧ (mR M (mR M v0 10) (Int32.toNatClampNeg (0 : Int32))) ≠ 999999 then (if rdI (mC M (mR M (mR M v0 10) (Int32.toNatClampNeg (0 : Int32)))) ∧ inb v2 (mL M (mR M (mR M v0 10) (Int32.toNatClampNeg (0 : Int32)))) then Q (some (.int (mI M (mR M (mR M v0 10) (Int32.toNatClampNeg (0 : Int32))) (Int32.toNatClampNeg v2)))) M else False) else False)) else False) else (if mC M v0 = 6 then (if (mR M v0 10) = 999999 then False else (if (rdA (mC M (mR M v0 10)) ∧ inb v3 (mL M (mR M v0 10))) ∧ (mR M (mR M v0 10) (Int32.toNatClampNeg v3)) ≠ 999999 then (if mC M (mR M (mR M v0 10) (Int32.toNatClampNeg v3)) = 10 ∧ inb v3 (mL M (mR M (mR M v0 10) (Int32.toNatClampNeg v3))) then Wn (d + 1) i_KN_mostPairs 30 [(0, .ref v0), (1, .ref v1), (2, .int v2), (3, .int v3), (4, .int (v3 + (1 : Int32)))] [] (setI M (mR M (mR M v0 10) (Int32.toNatClampNeg v3)) (Int32.toNatClampNeg v3) (0 : Int32)) Q else False) else False)) else False)) :=
  sy_iff 400 _ _ _ _ _ _ _
set_option maxRecDepth 100000 in
theorem H_KN_mostPairs_30 (d : Nat) (v0 : Nat) (v1 : Nat) (v2 : Int32) (v3 : Int32) (v4 : Int32) (M : Mem) (Q : Option Value → Mem → Prop) : Wn (d + 1) i_KN_mostPairs 30 [(0, .ref v0), (1, .ref v1), (2, .int v2), (3, .int v3), (4, .int v4)] [] M Q ↔ (if v2 < v4 then Wn (d + 1) i_KN_mostPairs 12 [(0, .ref v0), (1, .ref v1), (2, .int v2), (3, .int (v3 + ((-1) : Int32)))] [] M Q else (if mC M v0 = 6 then (if (mR M v0 10) = 999999 then False else (if (rdA (mC M (mR M v0 10)) ∧ inb v3 (mL M (mR M v0 10))) ∧ (mR M (mR M v0 10) (Int32.toNatClampNeg v3)) ≠ 999999 then (if mC M v0 = 6 then (WI d i_KN_mostPairsWithin [.ref v0, .ref v1, .int v3, .int v4] M (fun x2 M1 => (if mC M1 (mR M (mR M v0 10) (Int32.toNatClampNeg v3)) = 10 ∧ inb v4 (mL M1 (mR M (mR M v0 10) (Int32.toNatClampNeg v3))) then Wn (d + 1) i_KN_mostPairs 30 [(0, .ref v0), (1, .ref v1), (2, .int v2), (3, .int v3), (4, .int (v4 + (1 : Int32)))] [] (setI M1 (mR M (mR M v0 10) (Int32.toNatClampNeg v3)) (Int32.toNatClampNeg v4) x2) Q else False))) else False) else False)) else False)) :=
  sy_iff 400 _ _ _ _ _ _ _
set_option maxRecDepth 100000 in
theorem E_KN_mostPairsWithin (d : Nat) (t : Nat) (p1 : Nat) (p2 : Int32) (p3 : Int32) (M : Mem) (Q : Int32 → Mem → Prop) : WI (d + 1) i_KN_mostPairsWithin [.ref t, .ref p1, .int p2, .int p3] M Q ↔ (if mC M t = 6 then (if (mR M t 10) = 999999 then False else (if (rdA (mC M (mR M t 10)) ∧ inb (p2 + (1 : Int32)) (mL M (mR M t 10))) ∧ (mR M (mR M t 10) (Int32.toNatClampNeg (p2 + (1 : Int32)))) ≠ 999999 then (if rdI (mC M (mR M (mR M t 10) (Int32.toNatClampNeg (p2 + (1 : Int32))))) ∧ inb p3 (mL M (mR M (mR M t 10) (Int32.toNatClampNeg (p2 + (1 : Int32))))) then Wn (d + 1) i_KN_mostPairsWithin 17 [(0, .ref t), (1, .ref p1), (2, .int p2), (3, .int p3), (4, .int (mI M (mR M (mR M t 10) (Int32.toNatClampNeg (p2 + (1 : Int32)))) (Int32.toNatClampNeg p3))), (5, .int (p2 + (1 : Int32)))] [] M (QI Q) else False) else False)) else False) :=
  sy_iff 400 _ _ _ _ _ _ _
set_option maxRecDepth 100000 in
theorem H_KN_mostPairsWithin_17 (d : Nat) (v0 : Nat) (v1 : Nat) (v2 : Int32) (v3 : Int32) (v4 : Int32) (v5 : Int32) (M : Mem) (Q : Option Value → Mem → Prop) : Wn (d + 1) i_KN_mostPairsWithin 17 [(0, .ref v0), (1, .ref v1), (2, .int v2), (3, .int v3), (4, .int v4), (5, .int v5)] [] M Q ↔ (if v5 < v3 then (if mC M v1 = 4 then (WI d i_Row_at [.ref v1, .int v5] M (fun x2 M1 => (if mC M1 v1 = 4 then (WI d i_Row_at [.ref v1, .int v2] M1 (fun x4 M3 => (WI d i_KN_undoing [.int x4] M3 (fun x6 M5 => (if x2 = x6 then (if mC M5 v0 = 6 then (if (mR M5 v0 10) = 999999 then False else (if (rdA (mC M5 (mR M5 v0 10)) ∧ inb (v2 + (1 : Int32)) (mL M5 (mR M5 v0 10))) ∧ (mR M5 (mR M5 v0 10) (Int32.toNatClampNeg (v2 + (1 : Int32)))) ≠ 999999 then (if rdI (mC M5 (mR M5 (mR M5 v0 10) (Int32.toNatClampNeg (v2 + (1 : Int32))))) ∧ inb v5 (mL M5 (mR M5 (mR M5 v0 10) (Int32.toNatClampNeg (v2 + (1 : Int32))))) then (if mC M5 v0 = 6 then (if (mR M5 v0 10) = 999999 then False else (if (rdA (mC M5 (mR M5 v0 10)) ∧ inb (v5 + (1 : Int32)) (mL M5 (mR M5 v0 10))) ∧ (mR M5 (mR M5 v0 10) (Int32.toNatClampNeg (v5 + (1 : Int32)))) ≠ 999999 then (if rdI (mC M5 (mR M5 (mR M5 v0 10) (Int32.toNatClampNeg (v5 + (1 : Int32))))) ∧ inb v3 (mL M5 (mR M5 (mR M5 v0 10) (Int32.toNatClampNeg (v5 + (1 : Int32))))) then Wn (d + 1) i_KN_mostPairsWithin 17 [(0, .ref v0), (1, .ref v1), (2, .int v2), (3, .int v3), (4, .int (if v4 < (((1 : Int32) + (mI M5 (mR M5 (mR M5 v0 10) (Int32.toNatClampNeg (v2 + (1 : Int32)))) (Int32.toNatClampNeg v5))) + (mI M5 (mR M5 (mR M5 v0 10) (Int32.toNatClampNeg (v5 + (1 : Int32)))) (Int32.toNatClampNeg v3))) then (((1 : Int32) + (mI M5 (mR M5 (mR M5 v0 10) (Int32.toNatClampNeg (v2 + (1 : Int32)))) (Int32.toNatClampNeg v5))) + (mI M5 (mR M5 (mR M5 v0 10) (Int32.toNatClampNeg (v5 + (1 : Int32)))) (Int32.toNatClampNeg v3))) else v4)), (5, .int (v5 + (1 : Int32)))] [] M5 Q else False) else False)) else False) else False) else False)) else False) else Wn (d + 1) i_KN_mostPairsWithin 17 [(0, .ref v0), (1, .ref v1), (2, .int v2), (3, .int v3), (4, .int v4), (5, .int (v5 + (1 : Int32)))] [] M5 Q))))) else False))) else False) else Q (some (.int v4)) M) :=
  sy_iff 400 _ _ _ _ _ _ _
end
section
set_option maxRecDepth 100000 in
theorem E_MD_in (d : Nat) (p1 : Int64) (p2 : Int64) (p3 : Int64) (M : Mem) (Q : Int32 → Mem → Prop) : WI d i_MD_in [.long p1, .long p2, .long p3] M Q ↔ (if (lg_cmp p1 p2) < 0 then Q (0 : Int32) M else (if 0 < (lg_cmp p1 p3) then Q (0 : Int32) M else Q (1 : Int32) M)) :=
  sy_iff 400 _ _ _ _ _ _ _
set_option maxRecDepth 100000 in
theorem E_MD_isTwo (d : Nat) (p1 : Int32) (M : Mem) (Q : Int32 → Mem → Prop) : WI (d + 1) i_MD_isTwo [.int p1] M Q ↔ (WI d i_MD_in [.long (Int32.toInt64 p1), .long (0 : Int64), .long (1 : Int64)] M (fun x2 M1 => (if x2 = 0 ∨ x2 = 1 then Q x2 M1 else False))) :=
  sy_iff 400 _ _ _ _ _ _ _
set_option maxRecDepth 100000 in
theorem E_MD_isTurn (d : Nat) (p1 : Int32) (M : Mem) (Q : Int32 → Mem → Prop) : WI (d + 1) i_MD_isTurn [.int p1] M Q ↔ (WI d i_MD_in [.long (Int32.toInt64 p1), .long (0 : Int64), .long (5 : Int64)] M (fun x2 M1 => (if x2 = 0 ∨ x2 = 1 then Q x2 M1 else False))) :=
  sy_iff 400 _ _ _ _ _ _ _
set_option maxRecDepth 100000 in
theorem E_MD_bits (d : Nat) (p1 : Int32) (M : Mem) (Q : Int32 → Mem → Prop) : WI d i_MD_bits [.int p1] M Q ↔ Wn d i_MD_bits 4 [(0, .int p1), (1, .int (0 : Int32)), (2, .int p1)] [] M (QI Q) :=
  sy_iff 400 _ _ _ _ _ _ _
set_option maxRecDepth 100000 in
theorem H_MD_bits_4 (d : Nat) (v0 : Int32) (v1 : Int32) (v2 : Int32) (M : Mem) (Q : Option Value → Mem → Prop) : Wn d i_MD_bits 4 [(0, .int v0), (1, .int v1), (2, .int v2)] [] M Q ↔ (if v2 = 0 then Q (some (.int v1)) M else Wn d i_MD_bits 4 [(0, .int v0), (1, .int (v1 + (1 : Int32))), (2, .int (v2 &&& (v2 - (1 : Int32))))] [] M Q) :=
  sy_iff 400 _ _ _ _ _ _ _
set_option maxRecDepth 100000 in
theorem E_MD_tie (d : Nat) (t : Nat) (p1 : Int32) (M : Mem) (Q : Mem → Prop) : WV d i_MD_tie [.ref t, .int p1] M Q ↔ (if mC M t = 7 then (if 0 < (mI M t 10) then (if mC M t = 7 then (if (mR M t 9) = 999999 then False else (if mC M t = 7 then (if rdI (mC M (mR M t 9)) ∧ inb ((mI M t 10) - (1 : Int32)) (mL M (mR M t 9)) then (if (mI M (mR M t 9) (Int32.toNatClampNeg ((mI M t 10) - (1 : Int32)))) = (p1 ^^^ (1 : Int32)) then (if (1 : Int32) = 0 then (if mC M t = 7 then (if (mR M t 9) = 999999 then False else (if mC M t = 7 then (if mC M (mR M t 9) = 10 ∧ inb (mI M t 10) (mL M (mR M t 9)) then (if mC (setI M (mR M t 9) (Int32.toNatClampNeg (mI M t 10)) p1) t = 7 then (if (1 : Int32) = 0 then (if mC (setI M (mR M t 9) (Int32.toNatClampNeg (mI M t 10)) p1) t = 7 then Q (setI (setI M (mR M t 9) (Int32.toNatClampNeg (mI M t 10)) p1) t 10 ((mI (setI M (mR M t 9) (Int32.toNatClampNeg (mI M t 10)) p1) t 10) + (1 : Int32))) else False) else (if mC (setI M (mR M t 9) (Int32.toNatClampNeg (mI M t 10)) p1) t = 7 then Q (setI (setI M (mR M t 9) (Int32.toNatClampNeg (mI M t 10)) p1) t 10 ((mI (setI M (mR M t 9) (Int32.toNatClampNeg (mI M t 10)) p1) t 10) + ((-1) : Int32))) else False)) else False) else False) else False)) else False) else (if mC M t = 7 then (if (1 : Int32) = 0 then (if mC M t = 7 then Q (setI M t 10 ((mI M t 10) + (1 : Int32))) else False) else (if mC M t = 7 then Q (setI M t 10 ((mI M t 10) + ((-1) : Int32))) else False)) else False)) else (if (0 : Int32) = 0 then (if mC M t = 7 then (if (mR M t 9) = 999999 then False else (if mC M t = 7 then (if mC M (mR M t 9) = 10 ∧ inb (mI M t 10) (mL M (mR M t 9)) then (if mC (setI M (mR M t 9) (Int32.toNatClampNeg (mI M t 10)) p1) t = 7 then (if (0 : Int32) = 0 then (if mC (setI M (mR M t 9) (Int32.toNatClampNeg (mI M t 10)) p1) t = 7 then Q (setI (setI M (mR M t 9) (Int32.toNatClampNeg (mI M t 10)) p1) t 10 ((mI (setI M (mR M t 9) (Int32.toNatClampNeg (mI M t 10)) p1) t 10) + (1 : Int32))) else False) else (if mC (setI M (mR M t 9) (Int32.toNatClampNeg (mI M t 10)) p1) t = 7 then Q (setI (setI M (mR M t 9) (Int32.toNatClampNeg (mI M t 10)) p1) t 10 ((mI (setI M (mR M t 9) (Int32.toNatClampNeg (mI M t 10)) p1) t 10) + ((-1) : Int32))) else False)) else False) else False) else False)) else False) else (if mC M t = 7 then (if (0 : Int32) = 0 then (if mC M t = 7 then Q (setI M t 10 ((mI M t 10) + (1 : Int32))) else False) else (if mC M t = 7 then Q (setI M t 10 ((mI M t 10) + ((-1) : Int32))) else False)) else False))) else False) else False)) else False) else (if (0 : Int32) = 0 then (if mC M t = 7 then (if (mR M t 9) = 999999 then False else (if mC M t = 7 then (if mC M (mR M t 9) = 10 ∧ inb (mI M t 10) (mL M (mR M t 9)) then (if mC (setI M (mR M t 9) (Int32.toNatClampNeg (mI M t 10)) p1) t = 7 then (if (0 : Int32) = 0 then (if mC (setI M (mR M t 9) (Int32.toNatClampNeg (mI M t 10)) p1) t = 7 then Q (setI (setI M (mR M t 9) (Int32.toNatClampNeg (mI M t 10)) p1) t 10 ((mI (setI M (mR M t 9) (Int32.toNatClampNeg (mI M t 10)) p1) t 10) + (1 : Int32))) else False) else (if mC (setI M (mR M t 9) (Int32.toNatClampNeg (mI M t 10)) p1) t = 7 then Q (setI (setI M (mR M t 9) (Int32.toNatClampNeg (mI M t 10)) p1) t 10 ((mI (setI M (mR M t 9) (Int32.toNatClampNeg (mI M t 10)) p1) t 10) + ((-1) : Int32))) else False)) else False) else False) else False)) else False) else (if mC M t = 7 then (if (0 : Int32) = 0 then (if mC M t = 7 then Q (setI M t 10 ((mI M t 10) + (1 : Int32))) else False) else (if mC M t = 7 then Q (setI M t 10 ((mI M t 10) + ((-1) : Int32))) else False)) else False))) else False) :=
  sy_iff 400 _ _ _ _ _ _ _
set_option maxRecDepth 100000 in
theorem E_MD_tieRow (d : Nat) (t : Nat) (p1 : Int32) (p2 : Int32) (M : Mem) (Q : Mem → Prop) : WV (d + 1) i_MD_tieRow [.ref t, .int p1, .int p2] M Q ↔ Wn (d + 1) i_MD_tieRow 2 [(0, .ref t), (1, .int p1), (2, .int p2), (3, .int (0 : Int32))] [] M (QV Q) :=
  sy_iff 400 _ _ _ _ _ _ _
set_option maxRecDepth 100000 in
theorem H_MD_tieRow_2 (d : Nat) (v0 : Nat) (v1 : Int32) (v2 : Int32) (v3 : Int32) (M : Mem) (Q : Option Value → Mem → Prop) : Wn (d + 1) i_MD_tieRow 2 [(0, .ref v0), (1, .int v1), (2, .int v2), (3, .int v3)] [] M Q ↔ (if v3 < v2 then (if mC M v0 = 7 then (if (mR M v0 1) = 999999 then False else (if rdI (mC M (mR M v0 1)) ∧ inb (v1 + v3) (mL M (mR M v0 1)) then (if mC M v0 = 7 then (WV d i_MD_tie [.ref v0, .int (mI M (mR M v0 1) (Int32.toNatClampNeg (v1 + v3)))] M (fun M1 => Wn (d + 1) i_MD_tieRow 2 [(0, .ref v0), (1, .int v1), (2, .int v2), (3, .int (v3 + (1 : Int32)))] [] M1 Q)) else False) else False)) else False) else Q none M) :=
  sy_iff 400 _ _ _ _ _ _ _
set_option maxRecDepth 100000 in
theorem E_MD_tieName (d : Nat) (t : Nat) (p1 : Int32) (M : Mem) (Q : Mem → Prop) : WV (d + 1) i_MD_tieName [.ref t, .int p1] M Q ↔ (if mC M t = 7 then (if (mR M t 1) = 999999 then False else (if rdI (mC M (mR M t 1)) ∧ inb ((13 : Int32) + p1) (mL M (mR M t 1)) then (if mC M t = 7 then (WV d i_MD_tieRow [.ref t, .int ((19 : Int32) + ((12 : Int32) * p1)), .int (mI M (mR M t 1) (Int32.toNatClampNeg ((13 : Int32) + p1)))] M (fun M1 => Q M1)) else False) else False)) else False) :=
  sy_iff 400 _ _ _ _ _ _ _
set_option maxRecDepth 100000 in
theorem E_MD_type (d : Nat) (t : Nat) (p1 : Int32) (M : Mem) (Q : Int32 → Mem → Prop) : WI (d + 1) i_MD_type [.ref t, .int p1] M Q ↔ (WI d i_MD_in [.long (Int32.toInt64 p1), .long (0 : Int64), .long (255 : Int64)] M (fun x2 M1 => (if x2 = 0 then Q ((-1) : Int32) M1 else (if mC M1 t = 7 then (if (mI M1 t 7) = (200 : Int32) then Q ((-3) : Int32) M1 else (if mC M1 t = 7 then (if (mR M1 t 6) = 999999 then False else (if mC M1 t = 7 then (if mC M1 (mR M1 t 6) = 10 ∧ inb (mI M1 t 7) (mL M1 (mR M1 t 6)) then (if mC (setI M1 (mR M1 t 6) (Int32.toNatClampNeg (mI M1 t 7)) p1) t = 7 then (if mC (setI M1 (mR M1 t 6) (Int32.toNatClampNeg (mI M1 t 7)) p1) t = 7 then (if mC (setI (setI M1 (mR M1 t 6) (Int32.toNatClampNeg (mI M1 t 7)) p1) t 7 ((mI (setI M1 (mR M1 t 6) (Int32.toNatClampNeg (mI M1 t 7)) p1) t 7) + (1 : Int32))) t = 7 then Q (mI (setI (setI M1 (mR M1 t 6) (Int32.toNatClampNeg (mI M1 t 7)) p1) t 7 ((mI (setI M1 (mR M1 t 6) (Int32.toNatClampNeg (mI M1 t 7)) p1) t 7) + (1 : Int32))) t 7) (setI (setI M1 (mR M1 t 6) (Int32.toNatClampNeg (mI M1 t 7)) p1) t 7 ((mI (setI M1 (mR M1 t 6) (Int32.toNatClampNeg (mI M1 t 7)) p1) t 7) + (1 : Int32))) else False) else False) else False) else False) else False)) else False)) else False)))) :=
  sy_iff 400 _ _ _ _ _ _ _
set_option maxRecDepth 100000 in
theorem E_MD_clear (d : Nat) (t : Nat) (M : Mem) (Q : Int32 → Mem → Prop) : WI d i_MD_clear [.ref t] M Q ↔ (if mC M t = 7 then (if mC M t = 7 then Q (mI M t 7) (setI M t 7 (0 : Int32)) else False) else False) :=
  sy_iff 400 _ _ _ _ _ _ _
set_option maxRecDepth 100000 in
theorem E_MD_turnOf (d : Nat) (p1 : Int32) (M : Mem) (Q : Int32 → Mem → Prop) : WI d i_MD_turnOf [.int p1] M Q ↔ (if p1 = (117 : Int32) then Q (0 : Int32) M else (if p1 = (100 : Int32) then Q (1 : Int32) M else (if p1 = (108 : Int32) then Q (2 : Int32) M else (if p1 = (114 : Int32) then Q (3 : Int32) M else (if p1 = (105 : Int32) then Q (4 : Int32) M else (if p1 = (111 : Int32) then Q (5 : Int32) M else Q ((-1) : Int32) M)))))) :=
  sy_iff 400 _ _ _ _ _ _ _
theorem E_MD_ahead (d : Nat) (t : Nat) (M : Mem) (Q : Int32 → Mem → Prop) : WI d i_MD_ahead [.ref t] M Q ↔ Wn d i_MD_ahead 0 [(0, .ref t)] [] M (QI Q) := Iff.rfl
set_option maxRecDepth 100000 in
theorem H_MD_ahead_0 (d : Nat) (v0 : Nat) (M : Mem) (Q : Option Value → Mem → Prop) : Wn d i_MD_ahead 0 [(0, .ref v0)] [] M Q ↔ (if mC M v0 = 7 then (if mC M v0 = 7 then (if (mI M v0 12) < (mI M v0 7) then (if mC M v0 = 7 then (if (mR M v0 6) = 999999 then False else (if mC M v0 = 7 then (if rdI (mC M (mR M v0 6)) ∧ inb (mI M v0 12) (mL M (mR M v0 6)) then (if (mI M (mR M v0 6) (Int32.toNatClampNeg (mI M v0 12))) = (32 : Int32) then (if mC M v0 = 7 then (if mC M v0 = 7 then Wn d i_MD_ahead 0 [(0, .ref v0)] [] (setI M v0 12 ((mI M v0 12) + (1 : Int32))) Q else False) else False) else (if mC M v0 = 7 then (if mC M v0 = 7 then (if (mI M v0 12) < (mI M v0 7) then (if mC M v0 = 7 then (if (mR M v0 6) = 999999 then False else (if mC M v0 = 7 then (if rdI (mC M (mR M v0 6)) ∧ inb (mI M v0 12) (mL M (mR M v0 6)) then Q (some (.int (mI M (mR M v0 6) (Int32.toNatClampNeg (mI M v0 12))))) M else False) else False)) else False) else Q (some (.int ((-1) : Int32))) M) else False) else False)) else False) else False)) else False) else (if mC M v0 = 7 then (if mC M v0 = 7 then (if (mI M v0 12) < (mI M v0 7) then (if mC M v0 = 7 then (if (mR M v0 6) = 999999 then False else (if mC M v0 = 7 then (if rdI (mC M (mR M v0 6)) ∧ inb (mI M v0 12) (mL M (mR M v0 6)) then Q (some (.int (mI M (mR M v0 6) (Int32.toNatClampNeg (mI M v0 12))))) M else False) else False)) else False) else Q (some (.int ((-1) : Int32))) M) else False) else False)) else False) else False) :=
  sy_iff 400 _ _ _ _ _ _ _
set_option maxRecDepth 100000 in
theorem E_MD_takesHerder (d : Nat) (t : Nat) (p1 : Int32) (M : Mem) (Q : Int32 → Mem → Prop) : WI (d + 1) i_MD_takesHerder [.ref t, .int p1] M Q ↔ (if mC M t = 7 then (WI d i_MD_ahead [.ref t] M (fun x2 M1 => (if x2 = (104 : Int32) then (if p1 = (6 : Int32) then Q (0 : Int32) M1 else (if mC M1 t = 7 then (if mC M1 t = 7 then (if mC (setI M1 t 12 ((mI M1 t 12) + (1 : Int32))) t = 7 then (if mC (setI (setI M1 t 12 ((mI M1 t 12) + (1 : Int32))) t 10 (0 : Int32)) t = 7 then (WI d i_MD_ahead [.ref t] (setI (setI M1 t 12 ((mI M1 t 12) + (1 : Int32))) t 10 (0 : Int32)) (fun x4 M3 => (WI d i_MD_turnOf [.int x4] M3 (fun x6 M5 => Wn (d + 1) i_MD_takesHerder 42 [(0, .ref t), (1, .int p1), (2, .int (0 : Int32)), (3, .int x6)] [] M5 (QI Q))))) else False) else False) else False) else False)) else Q (0 : Int32) M1))) else False) :=
  sy_iff 400 _ _ _ _ _ _ _
set_option maxRecDepth 100000 in
theorem H_MD_takesHerder_42 (d : Nat) (v0 : Nat) (v1 : Int32) (v2 : Int32) (v3 : Int32) (M : Mem) (Q : Option Value → Mem → Prop) : Wn (d + 1) i_MD_takesHerder 42 [(0, .ref v0), (1, .int v1), (2, .int v2), (3, .int v3)] [] M Q ↔ (if v3 < 0 then (if mC M v0 = 7 then (WI d i_MD_ahead [.ref v0] M (fun x2 M1 => (if x2 = (59 : Int32) then (if mC M1 v0 = 7 then (if mC M1 v0 = 7 then (if mC (setI M1 v0 12 ((mI M1 v0 12) + (1 : Int32))) v0 = 7 then (if (mR (setI M1 v0 12 ((mI M1 v0 12) + (1 : Int32))) v0 11) = 999999 then False else (if mC (setI M1 v0 12 ((mI M1 v0 12) + (1 : Int32))) v0 = 7 then (if mC (setI M1 v0 12 ((mI M1 v0 12) + (1 : Int32))) (mR (setI M1 v0 12 ((mI M1 v0 12) + (1 : Int32))) v0 11) = 10 ∧ inb ((13 : Int32) + v1) (mL (setI M1 v0 12 ((mI M1 v0 12) + (1 : Int32))) (mR (setI M1 v0 12 ((mI M1 v0 12) + (1 : Int32))) v0 11)) then Wn (d + 1) i_MD_takesHerder 120 [(0, .ref v0), (1, .int v1), (2, .int v2), (3, .int v3), (4, .int (0 : Int32))] [] (setI (setI M1 v0 12 ((mI M1 v0 12) + (1 : Int32))) (mR (setI M1 v0 12 ((mI M1 v0 12) + (1 : Int32))) v0 11) (Int32.toNatClampNeg ((13 : Int32) + v1)) (mI (setI M1 v0 12 ((mI M1 v0 12) + (1 : Int32))) v0 10)) Q else False) else False)) else False) else False) else False) else Q (some (.int (0 : Int32))) M1))) else False) else (if v2 = (8 : Int32) then Q (some (.int (0 : Int32))) M else (if mC M v0 = 7 then (WV d i_MD_tie [.ref v0, .int v3] M (fun M3 => (if mC M3 v0 = 7 then (if mC M3 v0 = 7 then (if mC (setI M3 v0 12 ((mI M3 v0 12) + (1 : Int32))) v0 = 7 then (WI d i_MD_ahead [.ref v0] (setI M3 v0 12 ((mI M3 v0 12) + (1 : Int32))) (fun x5 M4 => (WI d i_MD_turnOf [.int x5] M4 (fun x7 M6 => Wn (d + 1) i_MD_takesHerder 42 [(0, .ref v0), (1, .int v1), (2, .int (v2 + (1 : Int32))), (3, .int x7)] [] M6 Q)))) else False) else False) else False))) else False))) :=
  sy_iff 400 _ _ _ _ _ _ _
set_option maxRecDepth 100000 in
theorem H_MD_takesHerder_120 (d : Nat) (v0 : Nat) (v1 : Int32) (v2 : Int32) (v3 : Int32) (v4 : Int32) (M : Mem) (Q : Option Value → Mem → Prop) : Wn (d + 1) i_MD_takesHerder 120 [(0, .ref v0), (1, .int v1), (2, .int v2), (3, .int v3), (4, .int v4)] [] M Q ↔ (if mC M v0 = 7 then (if v4 < (mI M v0 10) then (if mC M v0 = 7 then (if (mR M v0 11) = 999999 then False else (if mC M v0 = 7 then (if (mR M v0 9) = 999999 then False else (if rdI (mC M (mR M v0 9)) ∧ inb v4 (mL M (mR M v0 9)) then (if mC M (mR M v0 11) = 10 ∧ inb (((19 : Int32) + ((12 : Int32) * v1)) + v4) (mL M (mR M v0 11)) then Wn (d + 1) i_MD_takesHerder 120 [(0, .ref v0), (1, .int v1), (2, .int v2), (3, .int v3), (4, .int (v4 + (1 : Int32)))] [] (setI M (mR M v0 11) (Int32.toNatClampNeg (((19 : Int32) + ((12 : Int32) * v1)) + v4)) (mI M (mR M v0 9) (Int32.toNatClampNeg v4))) Q else False) else False)) else False)) else False) else Q (some (.int (1 : Int32))) M) else False) :=
  sy_iff 400 _ _ _ _ _ _ _
set_option maxRecDepth 100000 in
theorem E_MD_camp (d : Nat) (t : Nat) (M : Mem) (Q : Int32 → Mem → Prop) : WI (d + 1) i_MD_camp [.ref t] M Q ↔ Wn (d + 1) i_MD_camp 2 [(0, .ref t), (1, .int (0 : Int32))] [] M (QI Q) :=
  sy_iff 400 _ _ _ _ _ _ _
set_option maxRecDepth 100000 in
theorem H_MD_camp_2 (d : Nat) (v0 : Nat) (v1 : Int32) (M : Mem) (Q : Option Value → Mem → Prop) : Wn (d + 1) i_MD_camp 2 [(0, .ref v0), (1, .int v1)] [] M Q ↔ (if v1 < (91 : Int32) then (if mC M v0 = 7 then (if (mR M v0 11) = 999999 then False else (if mC M (mR M v0 11) = 10 ∧ inb v1 (mL M (mR M v0 11)) then Wn (d + 1) i_MD_camp 2 [(0, .ref v0), (1, .int (v1 + (1 : Int32)))] [] (setI M (mR M v0 11) (Int32.toNatClampNeg v1) (0 : Int32)) Q else False)) else False) else (if mC M v0 = 7 then Wn (d + 1) i_MD_camp 28 [(0, .ref v0), (1, .int (0 : Int32))] [] (setI M v0 12 (0 : Int32)) Q else False)) :=
  sy_iff 400 _ _ _ _ _ _ _
set_option maxRecDepth 100000 in
theorem H_MD_camp_28 (d : Nat) (v0 : Nat) (v1 : Int32) (M : Mem) (Q : Option Value → Mem → Prop) : Wn (d + 1) i_MD_camp 28 [(0, .ref v0), (1, .int v1)] [] M Q ↔ (if mC M v0 = 7 then (WI d i_MD_ahead [.ref v0] M (fun x2 M1 => (if x2 < 0 then (if mC M1 v0 = 7 then (if (mR M1 v0 11) = 999999 then False else (if mC M1 v0 = 7 then (if (mR M1 v0 1) = 999999 then False else (WV d i_MD_copies [.ref (mR M1 v0 11), .int (0 : Int32), .ref (mR M1 v0 1), .int (0 : Int32)] M1 (fun M3 => (if mC M3 v0 = 7 then (if mC (setI M3 v0 0 v1) v0 = 7 then (if mC (setI (setI M3 v0 0 v1) v0 7 (0 : Int32)) v0 = 7 then (if mC (setI (setI (setI M3 v0 0 v1) v0 7 (0 : Int32)) v0 3 (0 : Int32)) v0 = 7 then (if (mR (setI (setI (setI M3 v0 0 v1) v0 7 (0 : Int32)) v0 3 (0 : Int32)) v0 5) = 999999 then False else (if mC (setI (setI (setI M3 v0 0 v1) v0 7 (0 : Int32)) v0 3 (0 : Int32)) (mR (setI (setI (setI M3 v0 0 v1) v0 7 (0 : Int32)) v0 3 (0 : Int32)) v0 5) = 12 ∧ inb (0 : Int32) (mL (setI (setI (setI M3 v0 0 v1) v0 7 (0 : Int32)) v0 3 (0 : Int32)) (mR (setI (setI (setI M3 v0 0 v1) v0 7 (0 : Int32)) v0 3 (0 : Int32)) v0 5)) then (if mC (setI (setI (setI (setI M3 v0 0 v1) v0 7 (0 : Int32)) v0 3 (0 : Int32)) (mR (setI (setI (setI M3 v0 0 v1) v0 7 (0 : Int32)) v0 3 (0 : Int32)) v0 5) (Int32.toNatClampNeg (0 : Int32)) (vp_nar .boolean (0 : Int32))) v0 = 7 then (if (mR (setI (setI (setI (setI M3 v0 0 v1) v0 7 (0 : Int32)) v0 3 (0 : Int32)) (mR (setI (setI (setI M3 v0 0 v1) v0 7 (0 : Int32)) v0 3 (0 : Int32)) v0 5) (Int32.toNatClampNeg (0 : Int32)) (vp_nar .boolean (0 : Int32))) v0 5) = 999999 then False else (if mC (setI (setI (setI (setI M3 v0 0 v1) v0 7 (0 : Int32)) v0 3 (0 : Int32)) (mR (setI (setI (setI M3 v0 0 v1) v0 7 (0 : Int32)) v0 3 (0 : Int32)) v0 5) (Int32.toNatClampNeg (0 : Int32)) (vp_nar .boolean (0 : Int32))) (mR (setI (setI (setI (setI M3 v0 0 v1) v0 7 (0 : Int32)) v0 3 (0 : Int32)) (mR (setI (setI (setI M3 v0 0 v1) v0 7 (0 : Int32)) v0 3 (0 : Int32)) v0 5) (Int32.toNatClampNeg (0 : Int32)) (vp_nar .boolean (0 : Int32))) v0 5) = 12 ∧ inb (1 : Int32) (mL (setI (setI (setI (setI M3 v0 0 v1) v0 7 (0 : Int32)) v0 3 (0 : Int32)) (mR (setI (setI (setI M3 v0 0 v1) v0 7 (0 : Int32)) v0 3 (0 : Int32)) v0 5) (Int32.toNatClampNeg (0 : Int32)) (vp_nar .boolean (0 : Int32))) (mR (setI (setI (setI (setI M3 v0 0 v1) v0 7 (0 : Int32)) v0 3 (0 : Int32)) (mR (setI (setI (setI M3 v0 0 v1) v0 7 (0 : Int32)) v0 3 (0 : Int32)) v0 5) (Int32.toNatClampNeg (0 : Int32)) (vp_nar .boolean (0 : Int32))) v0 5)) then Q (some (.int v1)) (setI (setI (setI (setI (setI M3 v0 0 v1) v0 7 (0 : Int32)) v0 3 (0 : Int32)) (mR (setI (setI (setI M3 v0 0 v1) v0 7 (0 : Int32)) v0 3 (0 : Int32)) v0 5) (Int32.toNatClampNeg (0 : Int32)) (vp_nar .boolean (0 : Int32))) (mR (setI (setI (setI (setI M3 v0 0 v1) v0 7 (0 : Int32)) v0 3 (0 : Int32)) (mR (setI (setI (setI M3 v0 0 v1) v0 7 (0 : Int32)) v0 3 (0 : Int32)) v0 5) (Int32.toNatClampNeg (0 : Int32)) (vp_nar .boolean (0 : Int32))) v0 5) (Int32.toNatClampNeg (1 : Int32)) (vp_nar .boolean (0 : Int32))) else False)) else False) else False)) else False) else False) else False) else False)))) else False)) else False) else (if mC M1 v0 = 7 then (WI d i_MD_takesHerder [.ref v0, .int v1] M1 (fun x5 M4 => (if x5 = 0 then (if mC M4 v0 = 7 then Q (some (.int (((-10) : Int32) - (mI M4 v0 12)))) M4 else False) else Wn (d + 1) i_MD_camp 28 [(0, .ref v0), (1, .int (v1 + (1 : Int32)))] [] M4 Q))) else False)))) else False) :=
  sy_iff 400 _ _ _ _ _ _ _
set_option maxRecDepth 100000 in
theorem E_MD_copies (d : Nat) (p1 : Nat) (p2 : Int32) (p3 : Nat) (p4 : Int32) (M : Mem) (Q : Mem → Prop) : WV d i_MD_copies [.ref p1, .int p2, .ref p3, .int p4] M Q ↔ Wn d i_MD_copies 3 [(0, .ref p1), (1, .int p2), (2, .ref p3), (3, .int p4), (4, .int (0 : Int32))] [] M (QV Q) :=
  sy_iff 400 _ _ _ _ _ _ _
set_option maxRecDepth 100000 in
theorem H_MD_copies_3 (d : Nat) (v0 : Nat) (v1 : Int32) (v2 : Nat) (v3 : Int32) (v4 : Int32) (M : Mem) (Q : Option Value → Mem → Prop) : Wn d i_MD_copies 3 [(0, .ref v0), (1, .int v1), (2, .ref v2), (3, .int v3), (4, .int v4)] [] M Q ↔ (if v4 < (91 : Int32) then (if rdI (mC M v0) ∧ inb (v1 + v4) (mL M v0) then (if mC M v2 = 10 ∧ inb (v3 + v4) (mL M v2) then Wn d i_MD_copies 3 [(0, .ref v0), (1, .int v1), (2, .ref v2), (3, .int v3), (4, .int (v4 + (1 : Int32)))] [] (setI M v2 (Int32.toNatClampNeg (v3 + v4)) (mI M v0 (Int32.toNatClampNeg (v1 + v4)))) Q else False) else False) else Q none M) :=
  sy_iff 400 _ _ _ _ _ _ _
set_option maxRecDepth 100000 in
theorem E_MD_isHerder (d : Nat) (t : Nat) (p1 : Int32) (M : Mem) (Q : Int32 → Mem → Prop) : WI (d + 1) i_MD_isHerder [.ref t, .int p1] M Q ↔ (if mC M t = 7 then (WI d i_MD_in [.long (Int32.toInt64 p1), .long (0 : Int64), .long (Int32.toInt64 ((mI M t 0) - (1 : Int32)))] M (fun x2 M1 => (if x2 = 0 ∨ x2 = 1 then Q x2 M1 else False))) else False) :=
  sy_iff 400 _ _ _ _ _ _ _
set_option maxRecDepth 100000 in
theorem E_MD_name (d : Nat) (t : Nat) (p1 : Int32) (p2 : Int32) (M : Mem) (Q : Int32 → Mem → Prop) : WI (d + 1) i_MD_name [.ref t, .int p1, .int p2] M Q ↔ (if mC M t = 7 then (WI d i_MD_isHerder [.ref t, .int p1] M (fun x2 M1 => (if x2 = 0 then Q ((-1) : Int32) M1 else (if mC M1 t = 7 then (if (mR M1 t 1) = 999999 then False else (if rdI (mC M1 (mR M1 t 1)) ∧ inb ((13 : Int32) + p1) (mL M1 (mR M1 t 1)) then (WI d i_MD_in [.long (Int32.toInt64 p2), .long ((-1) : Int64), .long (Int32.toInt64 ((mI M1 (mR M1 t 1) (Int32.toNatClampNeg ((13 : Int32) + p1))) - (1 : Int32)))] M1 (fun x4 M3 => (if x4 = 0 then Q ((-1) : Int32) M3 else (if p2 < 0 then (if mC M3 t = 7 then (if (mR M3 t 1) = 999999 then False else (if rdI (mC M3 (mR M3 t 1)) ∧ inb ((13 : Int32) + p1) (mL M3 (mR M3 t 1)) then Q (mI M3 (mR M3 t 1) (Int32.toNatClampNeg ((13 : Int32) + p1))) M3 else False)) else False) else (if mC M3 t = 7 then (if (mR M3 t 1) = 999999 then False else (if rdI (mC M3 (mR M3 t 1)) ∧ inb (((19 : Int32) + ((12 : Int32) * p1)) + p2) (mL M3 (mR M3 t 1)) then Q (mI M3 (mR M3 t 1) (Int32.toNatClampNeg (((19 : Int32) + ((12 : Int32) * p1)) + p2))) M3 else False)) else False))))) else False)) else False)))) else False) :=
  sy_iff 400 _ _ _ _ _ _ _
set_option maxRecDepth 100000 in
theorem E_MD_contract (d : Nat) (t : Nat) (p1 : Int32) (M : Mem) (Q : Int32 → Mem → Prop) : WI (d + 1) i_MD_contract [.ref t, .int p1] M Q ↔ (if mC M t = 7 then (if (mR M t 1) = 999999 then False else (if rdI (mC M (mR M t 1)) ∧ inb (0 : Int32) (mL M (mR M t 1)) then (WI d i_MD_in [.long (Int32.toInt64 p1), .long ((-1) : Int64), .long (Int32.toInt64 ((mI M (mR M t 1) (Int32.toNatClampNeg (0 : Int32))) - (1 : Int32)))] M (fun x2 M1 => (if x2 = 0 then Q ((-1) : Int32) M1 else (if p1 < 0 then (if mC M1 t = 7 then (if (mR M1 t 1) = 999999 then False else (if rdI (mC M1 (mR M1 t 1)) ∧ inb (0 : Int32) (mL M1 (mR M1 t 1)) then Q (mI M1 (mR M1 t 1) (Int32.toNatClampNeg (0 : Int32))) M1 else False)) else False) else (if mC M1 t = 7 then (if (mR M1 t 1) = 999999 then False else (if rdI (mC M1 (mR M1 t 1)) ∧ inb ((1 : Int32) + p1) (mL M1 (mR M1 t 1)) then Q (mI M1 (mR M1 t 1) (Int32.toNatClampNeg ((1 : Int32) + p1))) M1 else False)) else False))))) else False)) else False) :=
  sy_iff 400 _ _ _ _ _ _ _
set_option maxRecDepth 100000 in
theorem E_MD_turnsOfAll (d : Nat) (t : Nat) (M : Mem) (Q : Int32 → Mem → Prop) : WI d i_MD_turnsOfAll [.ref t] M Q ↔ Wn d i_MD_turnsOfAll 4 [(0, .ref t), (1, .int (0 : Int32)), (2, .int (0 : Int32))] [] M (QI Q) :=
  sy_iff 400 _ _ _ _ _ _ _
set_option maxRecDepth 100000 in
theorem H_MD_turnsOfAll_4 (d : Nat) (v0 : Nat) (v1 : Int32) (v2 : Int32) (M : Mem) (Q : Option Value → Mem → Prop) : Wn d i_MD_turnsOfAll 4 [(0, .ref v0), (1, .int v1), (2, .int v2)] [] M Q ↔ (if mC M v0 = 7 then (if v2 < (mI M v0 0) then (if mC M v0 = 7 then (if (mR M v0 1) = 999999 then False else (if rdI (mC M (mR M v0 1)) ∧ inb ((13 : Int32) + v2) (mL M (mR M v0 1)) then Wn d i_MD_turnsOfAll 4 [(0, .ref v0), (1, .int (v1 + (mI M (mR M v0 1) (Int32.toNatClampNeg ((13 : Int32) + v2))))), (2, .int (v2 + (1 : Int32)))] [] M Q else False)) else False) else Q (some (.int v1)) M) else False) :=
  sy_iff 400 _ _ _ _ _ _ _
set_option maxRecDepth 100000 in
theorem E_MD_namesThere (d : Nat) (t : Nat) (M : Mem) (Q : Int32 → Mem → Prop) : WI (d + 1) i_MD_namesThere [.ref t] M Q ↔ Wn (d + 1) i_MD_namesThere 4 [(0, .ref t), (1, .int (0 : Int32)), (2, .int (0 : Int32))] [] M (QI Q) :=
  sy_iff 400 _ _ _ _ _ _ _
set_option maxRecDepth 100000 in
theorem H_MD_namesThere_4 (d : Nat) (v0 : Nat) (v1 : Int32) (v2 : Int32) (M : Mem) (Q : Option Value → Mem → Prop) : Wn (d + 1) i_MD_namesThere 4 [(0, .ref v0), (1, .int v1), (2, .int v2)] [] M Q ↔ (if mC M v0 = 7 then (if v2 < (mI M v0 0) then (if mC M v0 = 7 then (WI d i_MD_alikeOf [.ref v0, .int v2] M (fun x2 M1 => (if (x2 &&& (((1 : Int32) <<< (v2 &&& 31)) - (1 : Int32))) = 0 then Wn (d + 1) i_MD_namesThere 4 [(0, .ref v0), (1, .int (v1 + (1 : Int32))), (2, .int (v2 + (1 : Int32)))] [] M1 Q else Wn (d + 1) i_MD_namesThere 4 [(0, .ref v0), (1, .int (v1 + (0 : Int32))), (2, .int (v2 + (1 : Int32)))] [] M1 Q))) else False) else Q (some (.int v1)) M) else False) :=
  sy_iff 400 _ _ _ _ _ _ _
set_option maxRecDepth 100000 in
theorem E_MD_now (d : Nat) (t : Nat) (p1 : Int32) (M : Mem) (Q : Int32 → Mem → Prop) : WI (d + 1) i_MD_now [.ref t, .int p1] M Q ↔ (if Int32.toInt p1 = 0 then Wn (d + 1) i_MD_now 36 [(0, .ref t), (1, .int p1), (2, .int (0 : Int32)), (3, .int (0 : Int32))] [] M (QI Q) else (if Int32.toInt p1 = 1 then (if mC M t = 7 then (WI d i_MD_namesThere [.ref t] M (fun x4 M3 => Q x4 M3)) else False) else (if Int32.toInt p1 = 2 then (if mC M t = 7 then (WI d i_MD_turnsOfAll [.ref t] M (fun x2 M1 => Q x2 M1)) else False) else (if Int32.toInt p1 = 3 then (if mC M t = 7 then Q (mI M t 3) M else False) else Q ((-1) : Int32) M)))) :=
  sy_iff 400 _ _ _ _ _ _ _
set_option maxRecDepth 100000 in
theorem H_MD_now_36 (d : Nat) (v0 : Nat) (v1 : Int32) (v2 : Int32) (v3 : Int32) (M : Mem) (Q : Option Value → Mem → Prop) : Wn (d + 1) i_MD_now 36 [(0, .ref v0), (1, .int v1), (2, .int v2), (3, .int v3)] [] M Q ↔ (if mC M v0 = 7 then (if v3 < (mI M v0 0) then (if mC M v0 = 7 then (if (mR M v0 1) = 999999 then False else (if rdI (mC M (mR M v0 1)) ∧ inb ((13 : Int32) + v3) (mL M (mR M v0 1)) then (if 0 < (mI M (mR M v0 1) (Int32.toNatClampNeg ((13 : Int32) + v3))) then Wn (d + 1) i_MD_now 36 [(0, .ref v0), (1, .int v1), (2, .int (v2 ||| ((1 : Int32) <<< (v3 &&& 31)))), (3, .int (v3 + (1 : Int32)))] [] M Q else Wn (d + 1) i_MD_now 36 [(0, .ref v0), (1, .int v1), (2, .int (v2 ||| (0 : Int32))), (3, .int (v3 + (1 : Int32)))] [] M Q) else False)) else False) else Q (some (.int v2)) M) else False) :=
  sy_iff 400 _ _ _ _ _ _ _
set_option maxRecDepth 100000 in
theorem E_MD_remember (d : Nat) (t : Nat) (M : Mem) (Q : Mem → Prop) : WV (d + 1) i_MD_remember [.ref t] M Q ↔ (if mC M t = 7 then (if (mI M t 3) = (10 : Int32) then Wn (d + 1) i_MD_remember 11 [(0, .ref t), (1, .int (0 : Int32))] [] M (QV Q) else (if mC M t = 7 then (if (mR M t 1) = 999999 then False else (if mC M t = 7 then (if (mR M t 2) = 999999 then False else (if mC M t = 7 then (WV d i_MD_copies [.ref (mR M t 1), .int (0 : Int32), .ref (mR M t 2), .int ((91 : Int32) * (mI M t 3))] M (fun M1 => (if mC M1 t = 7 then (if mC M1 t = 7 then Q (setI M1 t 3 ((mI M1 t 3) + (1 : Int32))) else False) else False))) else False)) else False)) else False)) else False) :=
  sy_iff 400 _ _ _ _ _ _ _
set_option maxRecDepth 100000 in
theorem H_MD_remember_11 (d : Nat) (v0 : Nat) (v1 : Int32) (M : Mem) (Q : Option Value → Mem → Prop) : Wn (d + 1) i_MD_remember 11 [(0, .ref v0), (1, .int v1)] [] M Q ↔ (if v1 < (819 : Int32) then (if mC M v0 = 7 then (if (mR M v0 2) = 999999 then False else (if mC M v0 = 7 then (if (mR M v0 2) = 999999 then False else (if rdI (mC M (mR M v0 2)) ∧ inb (v1 + (91 : Int32)) (mL M (mR M v0 2)) then (if mC M (mR M v0 2) = 10 ∧ inb v1 (mL M (mR M v0 2)) then Wn (d + 1) i_MD_remember 11 [(0, .ref v0), (1, .int (v1 + (1 : Int32)))] [] (setI M (mR M v0 2) (Int32.toNatClampNeg v1) (mI M (mR M v0 2) (Int32.toNatClampNeg (v1 + (91 : Int32))))) Q else False) else False)) else False)) else False) else (if mC M v0 = 7 then (if mC M v0 = 7 then (if mC (setI M v0 3 ((mI M v0 3) - (1 : Int32))) v0 = 7 then (if (mR (setI M v0 3 ((mI M v0 3) - (1 : Int32))) v0 1) = 999999 then False else (if mC (setI M v0 3 ((mI M v0 3) - (1 : Int32))) v0 = 7 then (if (mR (setI M v0 3 ((mI M v0 3) - (1 : Int32))) v0 2) = 999999 then False else (if mC (setI M v0 3 ((mI M v0 3) - (1 : Int32))) v0 = 7 then (WV d i_MD_copies [.ref (mR (setI M v0 3 ((mI M v0 3) - (1 : Int32))) v0 1), .int (0 : Int32), .ref (mR (setI M v0 3 ((mI M v0 3) - (1 : Int32))) v0 2), .int ((91 : Int32) * (mI (setI M v0 3 ((mI M v0 3) - (1 : Int32))) v0 3))] (setI M v0 3 ((mI M v0 3) - (1 : Int32))) (fun M1 => (if mC M1 v0 = 7 then (if mC M1 v0 = 7 then Q none (setI M1 v0 3 ((mI M1 v0 3) + (1 : Int32))) else False) else False))) else False)) else False)) else False) else False) else False)) :=
  sy_iff 400 _ _ _ _ _ _ _
set_option maxRecDepth 100000 in
theorem E_MD_names (d : Nat) (t : Nat) (p1 : Int32) (M : Mem) (Q : Mem → Prop) : WV d i_MD_names [.ref t, .int p1] M Q ↔ (if mC M t = 7 then (if (mR M t 1) = 999999 then False else (if mC M t = 7 then (if mC M (mR M t 1) = 10 ∧ inb ((13 : Int32) + p1) (mL M (mR M t 1)) then Wn d i_MD_names 15 [(0, .ref t), (1, .int p1), (2, .int (0 : Int32))] [] (setI M (mR M t 1) (Int32.toNatClampNeg ((13 : Int32) + p1)) (mI M t 10)) (QV Q) else False) else False)) else False) :=
  sy_iff 400 _ _ _ _ _ _ _
set_option maxRecDepth 100000 in
theorem H_MD_names_15 (d : Nat) (v0 : Nat) (v1 : Int32) (v2 : Int32) (M : Mem) (Q : Option Value → Mem → Prop) : Wn d i_MD_names 15 [(0, .ref v0), (1, .int v1), (2, .int v2)] [] M Q ↔ (if v2 < (12 : Int32) then (if mC M v0 = 7 then (if (mR M v0 1) = 999999 then False else (if mC M v0 = 7 then (if v2 < (mI M v0 10) then (if mC M v0 = 7 then (if (mR M v0 9) = 999999 then False else (if rdI (mC M (mR M v0 9)) ∧ inb v2 (mL M (mR M v0 9)) then (if mC M (mR M v0 1) = 10 ∧ inb (((19 : Int32) + ((12 : Int32) * v1)) + v2) (mL M (mR M v0 1)) then Wn d i_MD_names 15 [(0, .ref v0), (1, .int v1), (2, .int (v2 + (1 : Int32)))] [] (setI M (mR M v0 1) (Int32.toNatClampNeg (((19 : Int32) + ((12 : Int32) * v1)) + v2)) (mI M (mR M v0 9) (Int32.toNatClampNeg v2))) Q else False) else False)) else False) else (if mC M (mR M v0 1) = 10 ∧ inb (((19 : Int32) + ((12 : Int32) * v1)) + v2) (mL M (mR M v0 1)) then Wn d i_MD_names 15 [(0, .ref v0), (1, .int v1), (2, .int (v2 + (1 : Int32)))] [] (setI M (mR M v0 1) (Int32.toNatClampNeg (((19 : Int32) + ((12 : Int32) * v1)) + v2)) (0 : Int32)) Q else False)) else False)) else False) else Q none M) :=
  sy_iff 400 _ _ _ _ _ _ _
set_option maxRecDepth 100000 in
theorem E_MD_ties (d : Nat) (t : Nat) (p1 : Int32) (p2 : Int32) (M : Mem) (Q : Int32 → Mem → Prop) : WI (d + 1) i_MD_ties [.ref t, .int p1, .int p2] M Q ↔ (if mC M t = 7 then (WI d i_MD_isHerder [.ref t, .int p1] M (fun x2 M1 => (if x2 = 0 then Q ((-1) : Int32) M1 else (WI d i_MD_isTurn [.int p2] M1 (fun x4 M3 => (if x4 = 0 then Q ((-1) : Int32) M3 else (if mC M3 t = 7 then (if mC (setI M3 t 10 (0 : Int32)) t = 7 then (WV d i_MD_tieName [.ref t, .int p1] (setI M3 t 10 (0 : Int32)) (fun M5 => (if mC M5 t = 7 then (WV d i_MD_tie [.ref t, .int p2] M5 (fun M6 => (if mC M6 t = 7 then (if (mI M6 t 10) = (13 : Int32) then Q ((-3) : Int32) M6 else (if mC M6 t = 7 then (WV d i_MD_remember [.ref t] M6 (fun M7 => (if mC M7 t = 7 then (WV d i_MD_names [.ref t, .int p1] M7 (fun M8 => (if mC M8 t = 7 then Q (mI M8 t 10) M8 else False))) else False))) else False)) else False))) else False))) else False) else False))))))) else False) :=
  sy_iff 400 _ _ _ _ _ _ _
set_option maxRecDepth 100000 in
theorem E_MD_loosens (d : Nat) (t : Nat) (p1 : Int32) (M : Mem) (Q : Int32 → Mem → Prop) : WI (d + 1) i_MD_loosens [.ref t, .int p1] M Q ↔ (if mC M t = 7 then (WI d i_MD_isHerder [.ref t, .int p1] M (fun x2 M1 => (if x2 = 0 then Q ((-1) : Int32) M1 else (if mC M1 t = 7 then (if (mR M1 t 1) = 999999 then False else (if rdI (mC M1 (mR M1 t 1)) ∧ inb ((13 : Int32) + p1) (mL M1 (mR M1 t 1)) then (if (mI M1 (mR M1 t 1) (Int32.toNatClampNeg ((13 : Int32) + p1))) = 0 then Q ((-2) : Int32) M1 else (if mC M1 t = 7 then (WV d i_MD_remember [.ref t] M1 (fun M3 => (if mC M3 t = 7 then (if (mR M3 t 1) = 999999 then False else (if rdI (mC M3 (mR M3 t 1)) ∧ inb ((((19 : Int32) + ((12 : Int32) * p1)) + (mI M1 (mR M1 t 1) (Int32.toNatClampNeg ((13 : Int32) + p1)))) - (1 : Int32)) (mL M3 (mR M3 t 1)) then (if mC M3 t = 7 then (if (mR M3 t 1) = 999999 then False else (if mC M3 (mR M3 t 1) = 10 ∧ inb ((((19 : Int32) + ((12 : Int32) * p1)) + (mI M1 (mR M1 t 1) (Int32.toNatClampNeg ((13 : Int32) + p1)))) - (1 : Int32)) (mL M3 (mR M3 t 1)) then (if mC (setI M3 (mR M3 t 1) (Int32.toNatClampNeg ((((19 : Int32) + ((12 : Int32) * p1)) + (mI M1 (mR M1 t 1) (Int32.toNatClampNeg ((13 : Int32) + p1)))) - (1 : Int32))) (0 : Int32)) t = 7 then (if (mR (setI M3 (mR M3 t 1) (Int32.toNatClampNeg ((((19 : Int32) + ((12 : Int32) * p1)) + (mI M1 (mR M1 t 1) (Int32.toNatClampNeg ((13 : Int32) + p1)))) - (1 : Int32))) (0 : Int32)) t 1) = 999999 then False else (if rdI (mC (setI M3 (mR M3 t 1) (Int32.toNatClampNeg ((((19 : Int32) + ((12 : Int32) * p1)) + (mI M1 (mR M1 t 1) (Int32.toNatClampNeg ((13 : Int32) + p1)))) - (1 : Int32))) (0 : Int32)) (mR (setI M3 (mR M3 t 1) (Int32.toNatClampNeg ((((19 : Int32) + ((12 : Int32) * p1)) + (mI M1 (mR M1 t 1) (Int32.toNatClampNeg ((13 : Int32) + p1)))) - (1 : Int32))) (0 : Int32)) t 1)) ∧ inb ((13 : Int32) + p1) (mL (setI M3 (mR M3 t 1) (Int32.toNatClampNeg ((((19 : Int32) + ((12 : Int32) * p1)) + (mI M1 (mR M1 t 1) (Int32.toNatClampNeg ((13 : Int32) + p1)))) - (1 : Int32))) (0 : Int32)) (mR (setI M3 (mR M3 t 1) (Int32.toNatClampNeg ((((19 : Int32) + ((12 : Int32) * p1)) + (mI M1 (mR M1 t 1) (Int32.toNatClampNeg ((13 : Int32) + p1)))) - (1 : Int32))) (0 : Int32)) t 1)) then (if mC (setI M3 (mR M3 t 1) (Int32.toNatClampNeg ((((19 : Int32) + ((12 : Int32) * p1)) + (mI M1 (mR M1 t 1) (Int32.toNatClampNeg ((13 : Int32) + p1)))) - (1 : Int32))) (0 : Int32)) (mR (setI M3 (mR M3 t 1) (Int32.toNatClampNeg ((((19 : Int32) + ((12 : Int32) * p1)) + (mI M1 (mR M1 t 1) (Int32.toNatClampNeg ((13 : Int32) + p1)))) - (1 : Int32))) (0 : Int32)) t 1) = 10 ∧ inb ((13 : Int32) + p1) (mL (setI M3 (mR M3 t 1) (Int32.toNatClampNeg ((((19 : Int32) + ((12 : Int32) * p1)) + (mI M1 (mR M1 t 1) (Int32.toNatClampNeg ((13 : Int32) + p1)))) - (1 : Int32))) (0 : Int32)) (mR (setI M3 (mR M3 t 1) (Int32.toNatClampNeg ((((19 : Int32) + ((12 : Int32) * p1)) + (mI M1 (mR M1 t 1) (Int32.toNatClampNeg ((13 : Int32) + p1)))) - (1 : Int32))) (0 : Int32)) t 1)) then Q (mI M3 (mR M3 t 1) (Int32.toNatClampNeg ((((19 : Int32) + ((12 : Int32) * p1)) + (mI M1 (mR M1 t 1) (Int32.toNatClampNeg ((13 : Int32) + p1)))) - (1 : Int32)))) (setI (setI M3 (mR M3 t 1) (Int32.toNatClampNeg ((((19 : Int32) + ((12 : Int32) * p1)) + (mI M1 (mR M1 t 1) (Int32.toNatClampNeg ((13 : Int32) + p1)))) - (1 : Int32))) (0 : Int32)) (mR (setI M3 (mR M3 t 1) (Int32.toNatClampNeg ((((19 : Int32) + ((12 : Int32) * p1)) + (mI M1 (mR M1 t 1) (Int32.toNatClampNeg ((13 : Int32) + p1)))) - (1 : Int32))) (0 : Int32)) t 1) (Int32.toNatClampNeg ((13 : Int32) + p1)) ((mI (setI M3 (mR M3 t 1) (Int32.toNatClampNeg ((((19 : Int32) + ((12 : Int32) * p1)) + (mI M1 (mR M1 t 1) (Int32.toNatClampNeg ((13 : Int32) + p1)))) - (1 : Int32))) (0 : Int32)) (mR (setI M3 (mR M3 t 1) (Int32.toNatClampNeg ((((19 : Int32) + ((12 : Int32) * p1)) + (mI M1 (mR M1 t 1) (Int32.toNatClampNeg ((13 : Int32) + p1)))) - (1 : Int32))) (0 : Int32)) t 1) (Int32.toNatClampNeg ((13 : Int32) + p1))) - (1 : Int32))) else False) else False)) else False) else False)) else False) else False)) else False))) else False)) else False)) else False)))) else False) :=
  sy_iff 400 _ _ _ _ _ _ _
set_option maxRecDepth 100000 in
theorem E_MD_bends (d : Nat) (t : Nat) (p1 : Int32) (p2 : Int32) (M : Mem) (Q : Int32 → Mem → Prop) : WI (d + 1) i_MD_bends [.ref t, .int p1, .int p2] M Q ↔ (if mC M t = 7 then (WI d i_MD_isHerder [.ref t, .int p1] M (fun x2 M1 => (if x2 = 0 then Q ((-1) : Int32) M1 else (if mC M1 t = 7 then (WI d i_MD_isHerder [.ref t, .int p2] M1 (fun x4 M3 => (if x4 = 0 then Q ((-1) : Int32) M3 else (if p1 = p2 then Q ((-1) : Int32) M3 else (if mC M3 t = 7 then (if mC (setI M3 t 10 (0 : Int32)) t = 7 then (WV d i_MD_tieName [.ref t, .int p2] (setI M3 t 10 (0 : Int32)) (fun M5 => (if mC M5 t = 7 then (WV d i_MD_tieName [.ref t, .int p1] M5 (fun M6 => (if mC M6 t = 7 then Wn (d + 1) i_MD_bends 46 [(0, .ref t), (1, .int p1), (2, .int p2), (3, .int (mI M6 t 10)), (4, .int (0 : Int32))] [] M6 (QI Q) else False))) else False))) else False) else False))))) else False)))) else False) :=
  sy_iff 400 _ _ _ _ _ _ _
set_option maxRecDepth 100000 in
theorem H_MD_bends_46 (d : Nat) (v0 : Nat) (v1 : Int32) (v2 : Int32) (v3 : Int32) (v4 : Int32) (M : Mem) (Q : Option Value → Mem → Prop) : Wn (d + 1) i_MD_bends 46 [(0, .ref v0), (1, .int v1), (2, .int v2), (3, .int v3), (4, .int v4)] [] M Q ↔ (if mC M v0 = 7 then (if v4 < (mI M v0 10) then (if mC M v0 = 7 then (if (mR M v0 13) = 999999 then False else (if mC M v0 = 7 then (if (mR M v0 9) = 999999 then False else (if rdI (mC M (mR M v0 9)) ∧ inb v4 (mL M (mR M v0 9)) then (if mC M (mR M v0 13) = 10 ∧ inb v4 (mL M (mR M v0 13)) then Wn (d + 1) i_MD_bends 46 [(0, .ref v0), (1, .int v1), (2, .int v2), (3, .int v3), (4, .int (v4 + (1 : Int32)))] [] (setI M (mR M v0 13) (Int32.toNatClampNeg v4) (mI M (mR M v0 9) (Int32.toNatClampNeg v4))) Q else False) else False)) else False)) else False) else (if mC M v0 = 7 then (if mC (setI M v0 10 (0 : Int32)) v0 = 7 then (WV d i_MD_tieName [.ref v0, .int v1] (setI M v0 10 (0 : Int32)) (fun M1 => (if mC M1 v0 = 7 then (WV d i_MD_tieName [.ref v0, .int v2] M1 (fun M2 => (if mC M2 v0 = 7 then (if (12 : Int32) < (mI M2 v0 10) then Q (some (.int ((-3) : Int32))) M2 else (if (12 : Int32) < v3 then Q (some (.int ((-3) : Int32))) M2 else (if mC M2 v0 = 7 then (WV d i_MD_remember [.ref v0] M2 (fun M3 => (if mC M3 v0 = 7 then (WV d i_MD_names [.ref v0, .int v1] M3 (fun M4 => (if mC M4 v0 = 7 then Wn (d + 1) i_MD_bends 125 [(0, .ref v0), (1, .int v1), (2, .int v2), (3, .int v3), (4, .int (0 : Int32))] [] (setI M4 v0 10 (0 : Int32)) Q else False))) else False))) else False))) else False))) else False))) else False) else False)) else False) :=
  sy_iff 400 _ _ _ _ _ _ _
set_option maxRecDepth 100000 in
theorem H_MD_bends_125 (d : Nat) (v0 : Nat) (v1 : Int32) (v2 : Int32) (v3 : Int32) (v4 : Int32) (M : Mem) (Q : Option Value → Mem → Prop) : Wn (d + 1) i_MD_bends 125 [(0, .ref v0), (1, .int v1), (2, .int v2), (3, .int v3), (4, .int v4)] [] M Q ↔ (if v4 < v3 then (if mC M v0 = 7 then (if (mR M v0 13) = 999999 then False else (if rdI (mC M (mR M v0 13)) ∧ inb v4 (mL M (mR M v0 13)) then (if mC M v0 = 7 then (WV d i_MD_tie [.ref v0, .int (mI M (mR M v0 13) (Int32.toNatClampNeg v4))] M (fun M1 => Wn (d + 1) i_MD_bends 125 [(0, .ref v0), (1, .int v1), (2, .int v2), (3, .int v3), (4, .int (v4 + (1 : Int32)))] [] M1 Q)) else False) else False)) else False) else (if mC M v0 = 7 then (WV d i_MD_names [.ref v0, .int v2] M (fun M2 => (if mC M2 v0 = 7 then (if (mR M2 v0 1) = 999999 then False else (if rdI (mC M2 (mR M2 v0 1)) ∧ inb ((13 : Int32) + v1) (mL M2 (mR M2 v0 1)) then Q (some (.int (mI M2 (mR M2 v0 1) (Int32.toNatClampNeg ((13 : Int32) + v1))))) M2 else False)) else False))) else False)) :=
  sy_iff 400 _ _ _ _ _ _ _
set_option maxRecDepth 100000 in
theorem E_MD_unties (d : Nat) (t : Nat) (p1 : Int32) (M : Mem) (Q : Int32 → Mem → Prop) : WI (d + 1) i_MD_unties [.ref t, .int p1] M Q ↔ (if mC M t = 7 then (WI d i_MD_isHerder [.ref t, .int p1] M (fun x2 M1 => (if x2 = 0 then Q ((-1) : Int32) M1 else (if mC M1 t = 7 then (WV d i_MD_remember [.ref t] M1 (fun M3 => (if mC M3 t = 7 then (if (mR M3 t 1) = 999999 then False else (if rdI (mC M3 (mR M3 t 1)) ∧ inb ((13 : Int32) + p1) (mL M3 (mR M3 t 1)) then (if mC M3 t = 7 then (if mC (setI M3 t 10 (0 : Int32)) t = 7 then (WV d i_MD_names [.ref t, .int p1] (setI M3 t 10 (0 : Int32)) (fun M4 => Q (mI M3 (mR M3 t 1) (Int32.toNatClampNeg ((13 : Int32) + p1))) M4)) else False) else False) else False)) else False))) else False)))) else False) :=
  sy_iff 400 _ _ _ _ _ _ _
set_option maxRecDepth 100000 in
theorem E_MD_adds (d : Nat) (t : Nat) (p1 : Int32) (M : Mem) (Q : Int32 → Mem → Prop) : WI (d + 1) i_MD_adds [.ref t, .int p1] M Q ↔ (WI d i_MD_isTurn [.int p1] M (fun x2 M1 => (if x2 = 0 then Q ((-1) : Int32) M1 else (if mC M1 t = 7 then (if (mR M1 t 1) = 999999 then False else (if rdI (mC M1 (mR M1 t 1)) ∧ inb (0 : Int32) (mL M1 (mR M1 t 1)) then (if (mI M1 (mR M1 t 1) (Int32.toNatClampNeg (0 : Int32))) = (12 : Int32) then Q ((-3) : Int32) M1 else (if mC M1 t = 7 then (WV d i_MD_remember [.ref t] M1 (fun M3 => (if mC M3 t = 7 then (if (mR M3 t 1) = 999999 then False else (if mC M3 t = 7 then (if (mR M3 t 1) = 999999 then False else (if rdI (mC M3 (mR M3 t 1)) ∧ inb (0 : Int32) (mL M3 (mR M3 t 1)) then (if mC M3 (mR M3 t 1) = 10 ∧ inb ((1 : Int32) + (mI M3 (mR M3 t 1) (Int32.toNatClampNeg (0 : Int32)))) (mL M3 (mR M3 t 1)) then (if mC (setI M3 (mR M3 t 1) (Int32.toNatClampNeg ((1 : Int32) + (mI M3 (mR M3 t 1) (Int32.toNatClampNeg (0 : Int32))))) p1) t = 7 then (if (mR (setI M3 (mR M3 t 1) (Int32.toNatClampNeg ((1 : Int32) + (mI M3 (mR M3 t 1) (Int32.toNatClampNeg (0 : Int32))))) p1) t 1) = 999999 then False else (if rdI (mC (setI M3 (mR M3 t 1) (Int32.toNatClampNeg ((1 : Int32) + (mI M3 (mR M3 t 1) (Int32.toNatClampNeg (0 : Int32))))) p1) (mR (setI M3 (mR M3 t 1) (Int32.toNatClampNeg ((1 : Int32) + (mI M3 (mR M3 t 1) (Int32.toNatClampNeg (0 : Int32))))) p1) t 1)) ∧ inb (0 : Int32) (mL (setI M3 (mR M3 t 1) (Int32.toNatClampNeg ((1 : Int32) + (mI M3 (mR M3 t 1) (Int32.toNatClampNeg (0 : Int32))))) p1) (mR (setI M3 (mR M3 t 1) (Int32.toNatClampNeg ((1 : Int32) + (mI M3 (mR M3 t 1) (Int32.toNatClampNeg (0 : Int32))))) p1) t 1)) then (if mC (setI M3 (mR M3 t 1) (Int32.toNatClampNeg ((1 : Int32) + (mI M3 (mR M3 t 1) (Int32.toNatClampNeg (0 : Int32))))) p1) (mR (setI M3 (mR M3 t 1) (Int32.toNatClampNeg ((1 : Int32) + (mI M3 (mR M3 t 1) (Int32.toNatClampNeg (0 : Int32))))) p1) t 1) = 10 ∧ inb (0 : Int32) (mL (setI M3 (mR M3 t 1) (Int32.toNatClampNeg ((1 : Int32) + (mI M3 (mR M3 t 1) (Int32.toNatClampNeg (0 : Int32))))) p1) (mR (setI M3 (mR M3 t 1) (Int32.toNatClampNeg ((1 : Int32) + (mI M3 (mR M3 t 1) (Int32.toNatClampNeg (0 : Int32))))) p1) t 1)) then (if mC (setI (setI M3 (mR M3 t 1) (Int32.toNatClampNeg ((1 : Int32) + (mI M3 (mR M3 t 1) (Int32.toNatClampNeg (0 : Int32))))) p1) (mR (setI M3 (mR M3 t 1) (Int32.toNatClampNeg ((1 : Int32) + (mI M3 (mR M3 t 1) (Int32.toNatClampNeg (0 : Int32))))) p1) t 1) (Int32.toNatClampNeg (0 : Int32)) ((mI (setI M3 (mR M3 t 1) (Int32.toNatClampNeg ((1 : Int32) + (mI M3 (mR M3 t 1) (Int32.toNatClampNeg (0 : Int32))))) p1) (mR (setI M3 (mR M3 t 1) (Int32.toNatClampNeg ((1 : Int32) + (mI M3 (mR M3 t 1) (Int32.toNatClampNeg (0 : Int32))))) p1) t 1) (Int32.toNatClampNeg (0 : Int32))) + (1 : Int32))) t = 7 then (if (mR (setI (setI M3 (mR M3 t 1) (Int32.toNatClampNeg ((1 : Int32) + (mI M3 (mR M3 t 1) (Int32.toNatClampNeg (0 : Int32))))) p1) (mR (setI M3 (mR M3 t 1) (Int32.toNatClampNeg ((1 : Int32) + (mI M3 (mR M3 t 1) (Int32.toNatClampNeg (0 : Int32))))) p1) t 1) (Int32.toNatClampNeg (0 : Int32)) ((mI (setI M3 (mR M3 t 1) (Int32.toNatClampNeg ((1 : Int32) + (mI M3 (mR M3 t 1) (Int32.toNatClampNeg (0 : Int32))))) p1) (mR (setI M3 (mR M3 t 1) (Int32.toNatClampNeg ((1 : Int32) + (mI M3 (mR M3 t 1) (Int32.toNatClampNeg (0 : Int32))))) p1) t 1) (Int32.toNatClampNeg (0 : Int32))) + (1 : Int32))) t 1) = 999999 then False else (if rdI (mC (setI (setI M3 (mR M3 t 1) (Int32.toNatClampNeg ((1 : Int32) + (mI M3 (mR M3 t 1) (Int32.toNatClampNeg (0 : Int32))))) p1) (mR (setI M3 (mR M3 t 1) (Int32.toNatClampNeg ((1 : Int32) + (mI M3 (mR M3 t 1) (Int32.toNatClampNeg (0 : Int32))))) p1) t 1) (Int32.toNatClampNeg (0 : Int32)) ((mI (setI M3 (mR M3 t 1) (Int32.toNatClampNeg ((1 : Int32) + (mI M3 (mR M3 t 1) (Int32.toNatClampNeg (0 : Int32))))) p1) (mR (setI M3 (mR M3 t 1) (Int32.toNatClampNeg ((1 : Int32) + (mI M3 (mR M3 t 1) (Int32.toNatClampNeg (0 : Int32))))) p1) t 1) (Int32.toNatClampNeg (0 : Int32))) + (1 : Int32))) (mR (setI (setI M3 (mR M3 t 1) (Int32.toNatClampNeg ((1 : Int32) + (mI M3 (mR M3 t 1) (Int32.toNatClampNeg (0 : Int32))))) p1) (mR (setI M3 (mR M3 t 1) (Int32.toNatClampNeg ((1 : Int32) + (mI M3 (mR M3 t 1) (Int32.toNatClampNeg (0 : Int32))))) p1) t 1) (Int32.toNatClampNeg (0 : Int32)) ((mI (setI M3 (mR M3 t 1) (Int32.toNatClampNeg ((1 : Int32) + (mI M3 (mR M3 t 1) (Int32.toNatClampNeg (0 : Int32))))) p1) (mR (setI M3 (mR M3 t 1) (Int32.toNatClampNeg ((1 : Int32) + (mI M3 (mR M3 t 1) (Int32.toNatClampNeg (0 : Int32))))) p1) t 1) (Int32.toNatClampNeg (0 : Int32))) + (1 : Int32))) t 1)) ∧ inb (0 : Int32) (mL (setI (setI M3 (mR M3 t 1) (Int32.toNatClampNeg ((1 : Int32) + (mI M3 (mR M3 t 1) (Int32.toNatClampNeg (0 : Int32))))) p1) (mR (setI M3 (mR M3 t 1) (Int32.toNatClampNeg ((1 : Int32) + (mI M3 (mR M3 t 1) (Int32.toNatClampNeg (0 : Int32))))) p1) t 1) (Int32.toNatClampNeg (0 : Int32)) ((mI (setI M3 (mR M3 t 1) (Int32.toNatClampNeg ((1 : Int32) + (mI M3 (mR M3 t 1) (Int32.toNatClampNeg (0 : Int32))))) p1) (mR (setI M3 (mR M3 t 1) (Int32.toNatClampNeg ((1 : Int32) + (mI M3 (mR M3 t 1) (Int32.toNatClampNeg (0 : Int32))))) p1) t 1) (Int32.toNatClampNeg (0 : Int32))) + (1 : Int32))) (mR (setI (setI M3 (mR M3 t 1) (Int32.toNatClampNeg ((1 : Int32) + (mI M3 (mR M3 t 1) (Int32.toNatClampNeg (0 : Int32))))) p1) (mR (setI M3 (mR M3 t 1) (Int32.toNatClampNeg ((1 : Int32) + (mI M3 (mR M3 t 1) (Int32.toNatClampNeg (0 : Int32))))) p1) t 1) (Int32.toNatClampNeg (0 : Int32)) ((mI (setI M3 (mR M3 t 1) (Int32.toNatClampNeg ((1 : Int32) + (mI M3 (mR M3 t 1) (Int32.toNatClampNeg (0 : Int32))))) p1) (mR (setI M3 (mR M3 t 1) (Int32.toNatClampNeg ((1 : Int32) + (mI M3 (mR M3 t 1) (Int32.toNatClampNeg (0 : Int32))))) p1) t 1) (Int32.toNatClampNeg (0 : Int32))) + (1 : Int32))) t 1)) then Q (mI (setI (setI M3 (mR M3 t 1) (Int32.toNatClampNeg ((1 : Int32) + (mI M3 (mR M3 t 1) (Int32.toNatClampNeg (0 : Int32))))) p1) (mR (setI M3 (mR M3 t 1) (Int32.toNatClampNeg ((1 : Int32) + (mI M3 (mR M3 t 1) (Int32.toNatClampNeg (0 : Int32))))) p1) t 1) (Int32.toNatClampNeg (0 : Int32)) ((mI (setI M3 (mR M3 t 1) (Int32.toNatClampNeg ((1 : Int32) + (mI M3 (mR M3 t 1) (Int32.toNatClampNeg (0 : Int32))))) p1) (mR (setI M3 (mR M3 t 1) (Int32.toNatClampNeg ((1 : Int32) + (mI M3 (mR M3 t 1) (Int32.toNatClampNeg (0 : Int32))))) p1) t 1) (Int32.toNatClampNeg (0 : Int32))) + (1 : Int32))) (mR (setI (setI M3 (mR M3 t 1) (Int32.toNatClampNeg ((1 : Int32) + (mI M3 (mR M3 t 1) (Int32.toNatClampNeg (0 : Int32))))) p1) (mR (setI M3 (mR M3 t 1) (Int32.toNatClampNeg ((1 : Int32) + (mI M3 (mR M3 t 1) (Int32.toNatClampNeg (0 : Int32))))) p1) t 1) (Int32.toNatClampNeg (0 : Int32)) ((mI (setI M3 (mR M3 t 1) (Int32.toNatClampNeg ((1 : Int32) + (mI M3 (mR M3 t 1) (Int32.toNatClampNeg (0 : Int32))))) p1) (mR (setI M3 (mR M3 t 1) (Int32.toNatClampNeg ((1 : Int32) + (mI M3 (mR M3 t 1) (Int32.toNatClampNeg (0 : Int32))))) p1) t 1) (Int32.toNatClampNeg (0 : Int32))) + (1 : Int32))) t 1) (Int32.toNatClampNeg (0 : Int32))) (setI (setI M3 (mR M3 t 1) (Int32.toNatClampNeg ((1 : Int32) + (mI M3 (mR M3 t 1) (Int32.toNatClampNeg (0 : Int32))))) p1) (mR (setI M3 (mR M3 t 1) (Int32.toNatClampNeg ((1 : Int32) + (mI M3 (mR M3 t 1) (Int32.toNatClampNeg (0 : Int32))))) p1) t 1) (Int32.toNatClampNeg (0 : Int32)) ((mI (setI M3 (mR M3 t 1) (Int32.toNatClampNeg ((1 : Int32) + (mI M3 (mR M3 t 1) (Int32.toNatClampNeg (0 : Int32))))) p1) (mR (setI M3 (mR M3 t 1) (Int32.toNatClampNeg ((1 : Int32) + (mI M3 (mR M3 t 1) (Int32.toNatClampNeg (0 : Int32))))) p1) t 1) (Int32.toNatClampNeg (0 : Int32))) + (1 : Int32))) else False)) else False) else False) else False)) else False) else False) else False)) else False)) else False))) else False)) else False)) else False)))) :=
  sy_iff 400 _ _ _ _ _ _ _
set_option maxRecDepth 100000 in
theorem E_MD_tears (d : Nat) (t : Nat) (M : Mem) (Q : Int32 → Mem → Prop) : WI (d + 1) i_MD_tears [.ref t] M Q ↔ (if mC M t = 7 then (WV d i_MD_remember [.ref t] M (fun M1 => (if mC M1 t = 7 then (if (mR M1 t 1) = 999999 then False else (if rdI (mC M1 (mR M1 t 1)) ∧ inb (0 : Int32) (mL M1 (mR M1 t 1)) then (if mC M1 t = 7 then (if (mR M1 t 1) = 999999 then False else (if mC M1 (mR M1 t 1) = 10 ∧ inb (0 : Int32) (mL M1 (mR M1 t 1)) then Wn (d + 1) i_MD_tears 20 [(0, .ref t), (1, .int (mI M1 (mR M1 t 1) (Int32.toNatClampNeg (0 : Int32)))), (2, .int (0 : Int32))] [] (setI M1 (mR M1 t 1) (Int32.toNatClampNeg (0 : Int32)) (0 : Int32)) (QI Q) else False)) else False) else False)) else False))) else False) :=
  sy_iff 400 _ _ _ _ _ _ _
set_option maxRecDepth 100000 in
theorem H_MD_tears_20 (d : Nat) (v0 : Nat) (v1 : Int32) (v2 : Int32) (M : Mem) (Q : Option Value → Mem → Prop) : Wn (d + 1) i_MD_tears 20 [(0, .ref v0), (1, .int v1), (2, .int v2)] [] M Q ↔ (if v2 < (12 : Int32) then (if mC M v0 = 7 then (if (mR M v0 1) = 999999 then False else (if mC M (mR M v0 1) = 10 ∧ inb ((1 : Int32) + v2) (mL M (mR M v0 1)) then Wn (d + 1) i_MD_tears 20 [(0, .ref v0), (1, .int v1), (2, .int (v2 + (1 : Int32)))] [] (setI M (mR M v0 1) (Int32.toNatClampNeg ((1 : Int32) + v2)) (0 : Int32)) Q else False)) else False) else Q (some (.int v1)) M) :=
  sy_iff 400 _ _ _ _ _ _ _
set_option maxRecDepth 100000 in
theorem E_MD_undo (d : Nat) (t : Nat) (M : Mem) (Q : Int32 → Mem → Prop) : WI (d + 1) i_MD_undo [.ref t] M Q ↔ (if mC M t = 7 then (if (mI M t 3) = 0 then Q ((-2) : Int32) M else (if mC M t = 7 then (if mC M t = 7 then (if mC (setI M t 3 ((mI M t 3) - (1 : Int32))) t = 7 then (if (mR (setI M t 3 ((mI M t 3) - (1 : Int32))) t 2) = 999999 then False else (if mC (setI M t 3 ((mI M t 3) - (1 : Int32))) t = 7 then (if mC (setI M t 3 ((mI M t 3) - (1 : Int32))) t = 7 then (if (mR (setI M t 3 ((mI M t 3) - (1 : Int32))) t 1) = 999999 then False else (WV d i_MD_copies [.ref (mR (setI M t 3 ((mI M t 3) - (1 : Int32))) t 2), .int ((91 : Int32) * (mI (setI M t 3 ((mI M t 3) - (1 : Int32))) t 3)), .ref (mR (setI M t 3 ((mI M t 3) - (1 : Int32))) t 1), .int (0 : Int32)] (setI M t 3 ((mI M t 3) - (1 : Int32))) (fun M1 => (if mC M1 t = 7 then Q (mI M1 t 3) M1 else False)))) else False) else False)) else False) else False) else False)) else False) :=
  sy_iff 400 _ _ _ _ _ _ _
set_option maxRecDepth 100000 in
theorem E_MD_turnAt (d : Nat) (t : Nat) (p1 : Int32) (p2 : Int32) (M : Mem) (Q : Int32 → Mem → Prop) : WI d i_MD_turnAt [.ref t, .int p1, .int p2] M Q ↔ (if mC M t = 7 then (if (mR M t 1) = 999999 then False else (if rdI (mC M (mR M t 1)) ∧ inb (((19 : Int32) + ((12 : Int32) * p1)) + p2) (mL M (mR M t 1)) then Q (mI M (mR M t 1) (Int32.toNatClampNeg (((19 : Int32) + ((12 : Int32) * p1)) + p2))) M else False)) else False) :=
  sy_iff 400 _ _ _ _ _ _ _
set_option maxRecDepth 100000 in
theorem E_MD_unlike (d : Nat) (t : Nat) (p1 : Int32) (p2 : Int32) (M : Mem) (Q : Int32 → Mem → Prop) : WI (d + 1) i_MD_unlike [.ref t, .int p1, .int p2] M Q ↔ (if mC M t = 7 then (if (mR M t 1) = 999999 then False else (if rdI (mC M (mR M t 1)) ∧ inb ((13 : Int32) + p1) (mL M (mR M t 1)) then (if mC M t = 7 then (if (mR M t 1) = 999999 then False else (if rdI (mC M (mR M t 1)) ∧ inb ((13 : Int32) + p2) (mL M (mR M t 1)) then (if (mI M (mR M t 1) (Int32.toNatClampNeg ((13 : Int32) + p1))) = (mI M (mR M t 1) (Int32.toNatClampNeg ((13 : Int32) + p2))) then Wn (d + 1) i_MD_unlike 29 [(0, .ref t), (1, .int p1), (2, .int p2), (3, .int (0 : Int32)), (4, .int (0 : Int32))] [] M (QI Q) else Q (1000000 : Int32) M) else False)) else False) else False)) else False) :=
  sy_iff 400 _ _ _ _ _ _ _
set_option maxRecDepth 100000 in
theorem H_MD_unlike_29 (d : Nat) (v0 : Nat) (v1 : Int32) (v2 : Int32) (v3 : Int32) (v4 : Int32) (M : Mem) (Q : Option Value → Mem → Prop) : Wn (d + 1) i_MD_unlike 29 [(0, .ref v0), (1, .int v1), (2, .int v2), (3, .int v3), (4, .int v4)] [] M Q ↔ (if mC M v0 = 7 then (if (mR M v0 1) = 999999 then False else (if rdI (mC M (mR M v0 1)) ∧ inb ((13 : Int32) + v1) (mL M (mR M v0 1)) then (if v4 < (mI M (mR M v0 1) (Int32.toNatClampNeg ((13 : Int32) + v1))) then (if mC M v0 = 7 then (WI d i_MD_turnAt [.ref v0, .int v1, .int v4] M (fun x2 M1 => (if mC M1 v0 = 7 then (WI d i_MD_turnAt [.ref v0, .int v2, .int v4] M1 (fun x4 M3 => (if x2 = x4 then Wn (d + 1) i_MD_unlike 29 [(0, .ref v0), (1, .int v1), (2, .int v2), (3, .int (v3 + (0 : Int32))), (4, .int (v4 + (1 : Int32)))] [] M3 Q else Wn (d + 1) i_MD_unlike 29 [(0, .ref v0), (1, .int v1), (2, .int v2), (3, .int (v3 + (1 : Int32))), (4, .int (v4 + (1 : Int32)))] [] M3 Q))) else False))) else False) else Q (some (.int v3)) M) else False)) else False) :=
  sy_iff 400 _ _ _ _ _ _ _
set_option maxRecDepth 100000 in
theorem E_MD_nearTo (d : Nat) (t : Nat) (p1 : Int32) (p2 : Int32) (M : Mem) (Q : Int32 → Mem → Prop) : WI (d + 1) i_MD_nearTo [.ref t, .int p1, .int p2] M Q ↔ Wn (d + 1) i_MD_nearTo 5 [(0, .ref t), (1, .int p1), (2, .int p2), (3, .int (0 : Int32)), (4, .int (0 : Int32))] [] M (QI Q) :=
  sy_iff 400 _ _ _ _ _ _ _
set_option maxRecDepth 100000 in
theorem H_MD_nearTo_5 (d : Nat) (v0 : Nat) (v1 : Int32) (v2 : Int32) (v3 : Int32) (v4 : Int32) (M : Mem) (Q : Option Value → Mem → Prop) : Wn (d + 1) i_MD_nearTo 5 [(0, .ref v0), (1, .int v1), (2, .int v2), (3, .int v3), (4, .int v4)] [] M Q ↔ (if mC M v0 = 7 then (if v4 < (mI M v0 0) then (if mC M v0 = 7 then (WI d i_MD_unlike [.ref v0, .int v1, .int v4] M (fun x2 M1 => (if v2 < x2 then Wn (d + 1) i_MD_nearTo 5 [(0, .ref v0), (1, .int v1), (2, .int v2), (3, .int (v3 ||| (0 : Int32))), (4, .int (v4 + (1 : Int32)))] [] M1 Q else Wn (d + 1) i_MD_nearTo 5 [(0, .ref v0), (1, .int v1), (2, .int v2), (3, .int (v3 ||| ((1 : Int32) <<< (v4 &&& 31)))), (4, .int (v4 + (1 : Int32)))] [] M1 Q))) else False) else Q (some (.int v3)) M) else False) :=
  sy_iff 400 _ _ _ _ _ _ _
set_option maxRecDepth 100000 in
theorem E_MD_alikeOf (d : Nat) (t : Nat) (p1 : Int32) (M : Mem) (Q : Int32 → Mem → Prop) : WI (d + 1) i_MD_alikeOf [.ref t, .int p1] M Q ↔ (if mC M t = 7 then (WI d i_MD_nearTo [.ref t, .int p1, .int (0 : Int32)] M (fun x2 M1 => Q x2 M1)) else False) :=
  sy_iff 400 _ _ _ _ _ _ _
set_option maxRecDepth 100000 in
theorem E_MD_alike (d : Nat) (t : Nat) (p1 : Int32) (M : Mem) (Q : Int32 → Mem → Prop) : WI (d + 1) i_MD_alike [.ref t, .int p1] M Q ↔ (if mC M t = 7 then (WI d i_MD_isHerder [.ref t, .int p1] M (fun x2 M1 => (if x2 = 0 then Q ((-1) : Int32) M1 else (if mC M1 t = 7 then (WI d i_MD_alikeOf [.ref t, .int p1] M1 (fun x4 M3 => Q x4 M3)) else False)))) else False) :=
  sy_iff 400 _ _ _ _ _ _ _
set_option maxRecDepth 100000 in
theorem E_MD_ends (d : Nat) (t : Nat) (p1 : Int32) (M : Mem) (Q : Int32 → Mem → Prop) : WI (d + 1) i_MD_ends [.ref t, .int p1] M Q ↔ (if mC M t = 7 then (if (mR M t 1) = 999999 then False else (if rdI (mC M (mR M t 1)) ∧ inb ((13 : Int32) + p1) (mL M (mR M t 1)) then Wn (d + 1) i_MD_ends 14 [(0, .ref t), (1, .int p1), (2, .int (0 : Int32)), (3, .int ((mI M (mR M t 1) (Int32.toNatClampNeg ((13 : Int32) + p1))) - (1 : Int32)))] [] M (QI Q) else False)) else False) :=
  sy_iff 400 _ _ _ _ _ _ _
set_option maxRecDepth 100000 in
theorem H_MD_ends_14 (d : Nat) (v0 : Nat) (v1 : Int32) (v2 : Int32) (v3 : Int32) (M : Mem) (Q : Option Value → Mem → Prop) : Wn (d + 1) i_MD_ends 14 [(0, .ref v0), (1, .int v1), (2, .int v2), (3, .int v3)] [] M Q ↔ (if v2 < (v3 - v2) then (if mC M v0 = 7 then (WI d i_MD_turnAt [.ref v0, .int v1, .int v2] M (fun x2 M1 => (if mC M1 v0 = 7 then (WI d i_MD_turnAt [.ref v0, .int v1, .int (v3 - v2)] M1 (fun x4 M3 => (if x2 = (x4 ^^^ (1 : Int32)) then Wn (d + 1) i_MD_ends 14 [(0, .ref v0), (1, .int v1), (2, .int (v2 + (1 : Int32))), (3, .int v3)] [] M3 Q else Q (some (.int v2)) M3))) else False))) else False) else Q (some (.int v2)) M) :=
  sy_iff 400 _ _ _ _ _ _ _
set_option maxRecDepth 100000 in
theorem E_MD_isRing (d : Nat) (t : Nat) (p1 : Int32) (p2 : Int32) (M : Mem) (Q : Int32 → Mem → Prop) : WI (d + 1) i_MD_isRing [.ref t, .int p1, .int p2] M Q ↔ (if mC M t = 7 then (WI d i_MD_ends [.ref t, .int p1] M (fun x2 M1 => (if mC M1 t = 7 then (WI d i_MD_ends [.ref t, .int p2] M1 (fun x4 M3 => (if mC M3 t = 7 then (if (mR M3 t 1) = 999999 then False else (if rdI (mC M3 (mR M3 t 1)) ∧ inb ((13 : Int32) + p1) (mL M3 (mR M3 t 1)) then (if mC M3 t = 7 then (if (mR M3 t 1) = 999999 then False else (if rdI (mC M3 (mR M3 t 1)) ∧ inb ((13 : Int32) + p2) (mL M3 (mR M3 t 1)) then (if ((mI M3 (mR M3 t 1) (Int32.toNatClampNeg ((13 : Int32) + p1))) - ((2 : Int32) * x2)) = ((mI M3 (mR M3 t 1) (Int32.toNatClampNeg ((13 : Int32) + p2))) - ((2 : Int32) * x4)) then (if ((mI M3 (mR M3 t 1) (Int32.toNatClampNeg ((13 : Int32) + p1))) - ((2 : Int32) * x2)) = 0 then Wn (d + 1) i_MD_isRing 64 [(0, .ref t), (1, .int p1), (2, .int p2), (3, .int x2), (4, .int x4), (5, .int ((mI M3 (mR M3 t 1) (Int32.toNatClampNeg ((13 : Int32) + p1))) - ((2 : Int32) * x2))), (6, .int (1 : Int32)), (7, .int (0 : Int32))] [] M3 (QI Q) else Wn (d + 1) i_MD_isRing 64 [(0, .ref t), (1, .int p1), (2, .int p2), (3, .int x2), (4, .int x4), (5, .int ((mI M3 (mR M3 t 1) (Int32.toNatClampNeg ((13 : Int32) + p1))) - ((2 : Int32) * x2))), (6, .int (0 : Int32)), (7, .int (0 : Int32))] [] M3 (QI Q)) else Q (0 : Int32) M3) else False)) else False) else False)) else False))) else False))) else False) :=
  sy_iff 400 _ _ _ _ _ _ _
set_option maxRecDepth 100000 in
theorem H_MD_isRing_64 (d : Nat) (v0 : Nat) (v1 : Int32) (v2 : Int32) (v3 : Int32) (v4 : Int32) (v5 : Int32) (v6 : Int32) (v7 : Int32) (M : Mem) (Q : Option Value → Mem → Prop) : Wn (d + 1) i_MD_isRing 64 [(0, .ref v0), (1, .int v1), (2, .int v2), (3, .int v3), (4, .int v4), (5, .int v5), (6, .int v6), (7, .int v7)] [] M Q ↔ (if v7 < v5 then (if v6 = 0 then Wn (d + 1) i_MD_isRing 82 [(0, .ref v0), (1, .int v1), (2, .int v2), (3, .int v3), (4, .int v4), (5, .int v5), (6, .int (1 : Int32)), (7, .int v7), (8, .int (0 : Int32))] [] M Q else (if v6 = 0 ∨ v6 = 1 then Q (some (.int v6)) M else False)) else (if v6 = 0 ∨ v6 = 1 then Q (some (.int v6)) M else False)) :=
  sy_iff 400 _ _ _ _ _ _ _
set_option maxRecDepth 100000 in
theorem H_MD_isRing_82 (d : Nat) (v0 : Nat) (v1 : Int32) (v2 : Int32) (v3 : Int32) (v4 : Int32) (v5 : Int32) (v6 : Int32) (v7 : Int32) (v8 : Int32) (M : Mem) (Q : Option Value → Mem → Prop) : Wn (d + 1) i_MD_isRing 82 [(0, .ref v0), (1, .int v1), (2, .int v2), (3, .int v3), (4, .int v4), (5, .int v5), (6, .int v6), (7, .int v7), (8, .int v8)] [] M Q ↔ (if v8 < v5 then (if v6 = 0 then Wn (d + 1) i_MD_isRing 82 [(0, .ref v0), (1, .int v1), (2, .int v2), (3, .int v3), (4, .int v4), (5, .int v5), (6, .int (0 : Int32)), (7, .int v7), (8, .int (v8 + (1 : Int32)))] [] M Q else (if mC M v0 = 7 then (WI d i_MD_turnAt [.ref v0, .int v1, .int (v3 + v8)] M (fun x2 M1 => (if v5 = 0 then False else (if mC M1 v0 = 7 then (WI d i_MD_turnAt [.ref v0, .int v2, .int (v4 + ((v7 + v8) - (v7 + v8) / v5 * v5))] M1 (fun x4 M3 => (if x2 = x4 then Wn (d + 1) i_MD_isRing 82 [(0, .ref v0), (1, .int v1), (2, .int v2), (3, .int v3), (4, .int v4), (5, .int v5), (6, .int (1 : Int32)), (7, .int v7), (8, .int (v8 + (1 : Int32)))] [] M3 Q else Wn (d + 1) i_MD_isRing 82 [(0, .ref v0), (1, .int v1), (2, .int v2), (3, .int v3), (4, .int v4), (5, .int v5), (6, .int (0 : Int32)), (7, .int v7), (8, .int (v8 + (1 : Int32)))] [] M3 Q))) else False)))) else False)) else Wn (d + 1) i_MD_isRing 64 [(0, .ref v0), (1, .int v1), (2, .int v2), (3, .int v3), (4, .int v4), (5, .int v5), (6, .int v6), (7, .int (v7 + (1 : Int32)))] [] M Q) :=
  sy_iff 400 _ _ _ _ _ _ _
set_option maxRecDepth 100000 in
theorem E_MD_ring (d : Nat) (t : Nat) (p1 : Int32) (M : Mem) (Q : Int32 → Mem → Prop) : WI (d + 1) i_MD_ring [.ref t, .int p1] M Q ↔ (if mC M t = 7 then (WI d i_MD_isHerder [.ref t, .int p1] M (fun x2 M1 => (if x2 = 0 then Q ((-1) : Int32) M1 else Wn (d + 1) i_MD_ring 14 [(0, .ref t), (1, .int p1), (2, .int (0 : Int32)), (3, .int (0 : Int32))] [] M1 (QI Q)))) else False) :=
  sy_iff 400 _ _ _ _ _ _ _
set_option maxRecDepth 100000 in
theorem H_MD_ring_14 (d : Nat) (v0 : Nat) (v1 : Int32) (v2 : Int32) (v3 : Int32) (M : Mem) (Q : Option Value → Mem → Prop) : Wn (d + 1) i_MD_ring 14 [(0, .ref v0), (1, .int v1), (2, .int v2), (3, .int v3)] [] M Q ↔ (if mC M v0 = 7 then (if v3 < (mI M v0 0) then (if mC M v0 = 7 then (WI d i_MD_isRing [.ref v0, .int v1, .int v3] M (fun x2 M1 => (if x2 = 0 then Wn (d + 1) i_MD_ring 14 [(0, .ref v0), (1, .int v1), (2, .int (v2 ||| (0 : Int32))), (3, .int (v3 + (1 : Int32)))] [] M1 Q else Wn (d + 1) i_MD_ring 14 [(0, .ref v0), (1, .int v1), (2, .int (v2 ||| ((1 : Int32) <<< (v3 &&& 31)))), (3, .int (v3 + (1 : Int32)))] [] M1 Q))) else False) else Q (some (.int v2)) M) else False) :=
  sy_iff 400 _ _ _ _ _ _ _
set_option maxRecDepth 100000 in
theorem E_MD_way (d : Nat) (t : Nat) (p1 : Int32) (p2 : Int32) (M : Mem) (Q : Int32 → Mem → Prop) : WI (d + 1) i_MD_way [.ref t, .int p1, .int p2] M Q ↔ (if mC M t = 7 then (WI d i_MD_isHerder [.ref t, .int p1] M (fun x2 M1 => (if x2 = 0 then Q ((-1) : Int32) M1 else (if mC M1 t = 7 then (WI d i_MD_isHerder [.ref t, .int p2] M1 (fun x4 M3 => (if x4 = 0 then Q ((-1) : Int32) M3 else Wn (d + 1) i_MD_way 20 [(0, .ref t), (1, .int p1), (2, .int p2), (3, .int (0 : Int32))] [] M3 (QI Q)))) else False)))) else False) :=
  sy_iff 400 _ _ _ _ _ _ _
set_option maxRecDepth 100000 in
theorem H_MD_way_20 (d : Nat) (v0 : Nat) (v1 : Int32) (v2 : Int32) (v3 : Int32) (M : Mem) (Q : Option Value → Mem → Prop) : Wn (d + 1) i_MD_way 20 [(0, .ref v0), (1, .int v1), (2, .int v2), (3, .int v3)] [] M Q ↔ (if mC M v0 = 7 then (if (mR M v0 1) = 999999 then False else (if rdI (mC M (mR M v0 1)) ∧ inb ((13 : Int32) + v1) (mL M (mR M v0 1)) then (if v3 < (mI M (mR M v0 1) (Int32.toNatClampNeg ((13 : Int32) + v1))) then (if mC M v0 = 7 then (if (mR M v0 1) = 999999 then False else (if rdI (mC M (mR M v0 1)) ∧ inb ((13 : Int32) + v2) (mL M (mR M v0 1)) then (if v3 < (mI M (mR M v0 1) (Int32.toNatClampNeg ((13 : Int32) + v2))) then (if mC M v0 = 7 then (WI d i_MD_turnAt [.ref v0, .int v1, .int v3] M (fun x2 M1 => (if mC M1 v0 = 7 then (WI d i_MD_turnAt [.ref v0, .int v2, .int v3] M1 (fun x4 M3 => (if x2 = x4 then Wn (d + 1) i_MD_way 20 [(0, .ref v0), (1, .int v1), (2, .int v2), (3, .int (v3 + (1 : Int32)))] [] M3 Q else (if mC M3 v0 = 7 then (if (mR M3 v0 1) = 999999 then False else (if rdI (mC M3 (mR M3 v0 1)) ∧ inb ((13 : Int32) + v1) (mL M3 (mR M3 v0 1)) then (if mC M3 v0 = 7 then (if (mR M3 v0 1) = 999999 then False else (if rdI (mC M3 (mR M3 v0 1)) ∧ inb ((13 : Int32) + v2) (mL M3 (mR M3 v0 1)) then Q (some (.int (((mI M3 (mR M3 v0 1) (Int32.toNatClampNeg ((13 : Int32) + v1))) + (mI M3 (mR M3 v0 1) (Int32.toNatClampNeg ((13 : Int32) + v2)))) - ((2 : Int32) * v3)))) M3 else False)) else False) else False)) else False)))) else False))) else False) else (if mC M v0 = 7 then (if (mR M v0 1) = 999999 then False else (if rdI (mC M (mR M v0 1)) ∧ inb ((13 : Int32) + v1) (mL M (mR M v0 1)) then (if mC M v0 = 7 then (if (mR M v0 1) = 999999 then False else (if rdI (mC M (mR M v0 1)) ∧ inb ((13 : Int32) + v2) (mL M (mR M v0 1)) then Q (some (.int (((mI M (mR M v0 1) (Int32.toNatClampNeg ((13 : Int32) + v1))) + (mI M (mR M v0 1) (Int32.toNatClampNeg ((13 : Int32) + v2)))) - ((2 : Int32) * v3)))) M else False)) else False) else False)) else False)) else False)) else False) else (if mC M v0 = 7 then (if (mR M v0 1) = 999999 then False else (if rdI (mC M (mR M v0 1)) ∧ inb ((13 : Int32) + v1) (mL M (mR M v0 1)) then (if mC M v0 = 7 then (if (mR M v0 1) = 999999 then False else (if rdI (mC M (mR M v0 1)) ∧ inb ((13 : Int32) + v2) (mL M (mR M v0 1)) then Q (some (.int (((mI M (mR M v0 1) (Int32.toNatClampNeg ((13 : Int32) + v1))) + (mI M (mR M v0 1) (Int32.toNatClampNeg ((13 : Int32) + v2)))) - ((2 : Int32) * v3)))) M else False)) else False) else False)) else False)) else False)) else False) :=
  sy_iff 400 _ _ _ _ _ _ _
set_option maxRecDepth 100000 in
theorem E_MD_rootOf (d : Nat) (t : Nat) (p1 : Int32) (M : Mem) (Q : Int32 → Mem → Prop) : WI (d + 1) i_MD_rootOf [.ref t, .int p1] M Q ↔ (if mC M t = 7 then (if (mR M t 1) = 999999 then False else (if rdI (mC M (mR M t 1)) ∧ inb ((13 : Int32) + p1) (mL M (mR M t 1)) then Wn (d + 1) i_MD_rootOf 12 [(0, .ref t), (1, .int p1), (2, .int (mI M (mR M t 1) (Int32.toNatClampNeg ((13 : Int32) + p1)))), (3, .int (1 : Int32))] [] M (QI Q) else False)) else False) :=
  sy_iff 400 _ _ _ _ _ _ _
set_option maxRecDepth 100000 in
theorem H_MD_rootOf_12 (d : Nat) (v0 : Nat) (v1 : Int32) (v2 : Int32) (v3 : Int32) (M : Mem) (Q : Option Value → Mem → Prop) : Wn (d + 1) i_MD_rootOf 12 [(0, .ref v0), (1, .int v1), (2, .int v2), (3, .int v3)] [] M Q ↔ (if v2 < v3 then Q (some (.int (0 : Int32))) M else (if v3 = 0 then False else (if (v2 - v2 / v3 * v3) = 0 then Wn (d + 1) i_MD_rootOf 33 [(0, .ref v0), (1, .int v1), (2, .int v2), (3, .int v3), (4, .int (1 : Int32)), (5, .int v3)] [] M Q else Wn (d + 1) i_MD_rootOf 33 [(0, .ref v0), (1, .int v1), (2, .int v2), (3, .int v3), (4, .int (0 : Int32)), (5, .int v3)] [] M Q))) :=
  sy_iff 400 _ _ _ _ _ _ _
set_option maxRecDepth 100000 in
theorem H_MD_rootOf_33 (d : Nat) (v0 : Nat) (v1 : Int32) (v2 : Int32) (v3 : Int32) (v4 : Int32) (v5 : Int32) (M : Mem) (Q : Option Value → Mem → Prop) : Wn (d + 1) i_MD_rootOf 33 [(0, .ref v0), (1, .int v1), (2, .int v2), (3, .int v3), (4, .int v4), (5, .int v5)] [] M Q ↔ (if v5 < v2 then (if v4 = 0 then Wn (d + 1) i_MD_rootOf 33 [(0, .ref v0), (1, .int v1), (2, .int v2), (3, .int v3), (4, .int (0 : Int32)), (5, .int (v5 + (1 : Int32)))] [] M Q else (if mC M v0 = 7 then (WI d i_MD_turnAt [.ref v0, .int v1, .int v5] M (fun x2 M1 => (if mC M1 v0 = 7 then (WI d i_MD_turnAt [.ref v0, .int v1, .int (v5 - v3)] M1 (fun x4 M3 => (if x2 = x4 then Wn (d + 1) i_MD_rootOf 33 [(0, .ref v0), (1, .int v1), (2, .int v2), (3, .int v3), (4, .int (1 : Int32)), (5, .int (v5 + (1 : Int32)))] [] M3 Q else Wn (d + 1) i_MD_rootOf 33 [(0, .ref v0), (1, .int v1), (2, .int v2), (3, .int v3), (4, .int (0 : Int32)), (5, .int (v5 + (1 : Int32)))] [] M3 Q))) else False))) else False)) else (if v4 = 0 then Wn (d + 1) i_MD_rootOf 12 [(0, .ref v0), (1, .int v1), (2, .int v2), (3, .int (v3 + (1 : Int32)))] [] M Q else Q (some (.int v3)) M)) :=
  sy_iff 400 _ _ _ _ _ _ _
set_option maxRecDepth 100000 in
theorem E_MD_root (d : Nat) (t : Nat) (p1 : Int32) (M : Mem) (Q : Int32 → Mem → Prop) : WI (d + 1) i_MD_root [.ref t, .int p1] M Q ↔ (if mC M t = 7 then (WI d i_MD_isHerder [.ref t, .int p1] M (fun x2 M1 => (if x2 = 0 then Q ((-1) : Int32) M1 else (if mC M1 t = 7 then (WI d i_MD_rootOf [.ref t, .int p1] M1 (fun x4 M3 => Q x4 M3)) else False)))) else False) :=
  sy_iff 400 _ _ _ _ _ _ _
set_option maxRecDepth 100000 in
theorem E_MD_isAhead (d : Nat) (t : Nat) (p1 : Int32) (p2 : Int32) (M : Mem) (Q : Int32 → Mem → Prop) : WI (d + 1) i_MD_isAhead [.ref t, .int p1, .int p2] M Q ↔ (if mC M t = 7 then (if (mR M t 1) = 999999 then False else (if rdI (mC M (mR M t 1)) ∧ inb ((13 : Int32) + p1) (mL M (mR M t 1)) then (if mC M t = 7 then (if (mR M t 1) = 999999 then False else (if rdI (mC M (mR M t 1)) ∧ inb ((13 : Int32) + p2) (mL M (mR M t 1)) then (if (mI M (mR M t 1) (Int32.toNatClampNeg ((13 : Int32) + p1))) = (mI M (mR M t 1) (Int32.toNatClampNeg ((13 : Int32) + p2))) then Wn (d + 1) i_MD_isAhead 50 [(0, .ref t), (1, .int p1), (2, .int p2), (3, .int (0 : Int32))] [] M (QI Q) else (if mC M t = 7 then (if (mR M t 1) = 999999 then False else (if rdI (mC M (mR M t 1)) ∧ inb ((13 : Int32) + p1) (mL M (mR M t 1)) then (if mC M t = 7 then (if (mR M t 1) = 999999 then False else (if rdI (mC M (mR M t 1)) ∧ inb ((13 : Int32) + p2) (mL M (mR M t 1)) then (if (mI M (mR M t 1) (Int32.toNatClampNeg ((13 : Int32) + p1))) < (mI M (mR M t 1) (Int32.toNatClampNeg ((13 : Int32) + p2))) then Q (1 : Int32) M else Q (0 : Int32) M) else False)) else False) else False)) else False)) else False)) else False) else False)) else False) :=
  sy_iff 400 _ _ _ _ _ _ _
set_option maxRecDepth 100000 in
theorem H_MD_isAhead_50 (d : Nat) (v0 : Nat) (v1 : Int32) (v2 : Int32) (v3 : Int32) (M : Mem) (Q : Option Value → Mem → Prop) : Wn (d + 1) i_MD_isAhead 50 [(0, .ref v0), (1, .int v1), (2, .int v2), (3, .int v3)] [] M Q ↔ (if mC M v0 = 7 then (if (mR M v0 1) = 999999 then False else (if rdI (mC M (mR M v0 1)) ∧ inb ((13 : Int32) + v1) (mL M (mR M v0 1)) then (if v3 < (mI M (mR M v0 1) (Int32.toNatClampNeg ((13 : Int32) + v1))) then (if mC M v0 = 7 then (WI d i_MD_turnAt [.ref v0, .int v1, .int v3] M (fun x2 M1 => (if mC M1 v0 = 7 then (WI d i_MD_turnAt [.ref v0, .int v2, .int v3] M1 (fun x4 M3 => (if x2 = x4 then Wn (d + 1) i_MD_isAhead 50 [(0, .ref v0), (1, .int v1), (2, .int v2), (3, .int (v3 + (1 : Int32)))] [] M3 Q else (if mC M3 v0 = 7 then (WI d i_MD_turnAt [.ref v0, .int v1, .int v3] M3 (fun x6 M5 => (if mC M5 v0 = 7 then (WI d i_MD_turnAt [.ref v0, .int v2, .int v3] M5 (fun x8 M7 => (if x6 < x8 then Q (some (.int (1 : Int32))) M7 else Q (some (.int (0 : Int32))) M7))) else False))) else False)))) else False))) else False) else (if v1 < v2 then Q (some (.int (1 : Int32))) M else Q (some (.int (0 : Int32))) M)) else False)) else False) :=
  sy_iff 400 _ _ _ _ _ _ _
set_option maxRecDepth 100000 in
theorem E_MD_order (d : Nat) (t : Nat) (p1 : Int32) (M : Mem) (Q : Int32 → Mem → Prop) : WI (d + 1) i_MD_order [.ref t, .int p1] M Q ↔ (if mC M t = 7 then (WI d i_MD_isHerder [.ref t, .int p1] M (fun x2 M1 => (if x2 = 0 then Q ((-1) : Int32) M1 else Wn (d + 1) i_MD_order 14 [(0, .ref t), (1, .int p1), (2, .int (0 : Int32)), (3, .int (0 : Int32))] [] M1 (QI Q)))) else False) :=
  sy_iff 400 _ _ _ _ _ _ _
set_option maxRecDepth 100000 in
theorem H_MD_order_14 (d : Nat) (v0 : Nat) (v1 : Int32) (v2 : Int32) (v3 : Int32) (M : Mem) (Q : Option Value → Mem → Prop) : Wn (d + 1) i_MD_order 14 [(0, .ref v0), (1, .int v1), (2, .int v2), (3, .int v3)] [] M Q ↔ (if mC M v0 = 7 then (if v3 < (mI M v0 0) then (if mC M v0 = 7 then (WI d i_MD_isAhead [.ref v0, .int v3, .int v1] M (fun x2 M1 => (if x2 = 0 then Wn (d + 1) i_MD_order 14 [(0, .ref v0), (1, .int v1), (2, .int (v2 + (0 : Int32))), (3, .int (v3 + (1 : Int32)))] [] M1 Q else Wn (d + 1) i_MD_order 14 [(0, .ref v0), (1, .int v1), (2, .int (v2 + (1 : Int32))), (3, .int (v3 + (1 : Int32)))] [] M1 Q))) else False) else Q (some (.int v2)) M) else False) :=
  sy_iff 400 _ _ _ _ _ _ _
set_option maxRecDepth 100000 in
theorem E_MD_least (d : Nat) (p1 : Int64) (p2 : Int64) (p3 : Int32) (M : Mem) (Q : Int64 → Mem → Prop) : WL d i_MD_least [.long p1, .long p2, .int p3] M Q ↔ Wn d i_MD_least 6 [(0, .long p1), (2, .long p2), (4, .int p3), (5, .long p1), (7, .long p2)] [] M (QL Q) :=
  sy_iff 400 _ _ _ _ _ _ _
set_option maxRecDepth 100000 in
theorem H_MD_least_6 (d : Nat) (v0 : Int64) (v2 : Int64) (v4 : Int32) (v5 : Int64) (v7 : Int64) (M : Mem) (Q : Option Value → Mem → Prop) : Wn d i_MD_least 6 [(0, .long v0), (2, .long v2), (4, .int v4), (5, .long v5), (7, .long v7)] [] M Q ↔ (if (lg_cmp v7 (0 : Int64)) = 0 then (if v4 = 0 then (if v5 = 0 then False else Q (some (.long (v0 / v5))) M) else (if v5 = 0 then False else Q (some (.long (v2 / v5))) M)) else (if v7 = 0 then False else Wn d i_MD_least 6 [(0, .long v0), (2, .long v2), (4, .int v4), (5, .long v7), (7, .long (v5 - v5 / v7 * v7))] [] M Q)) :=
  sy_iff 400 _ _ _ _ _ _ _
set_option maxRecDepth 100000 in
theorem E_MD_cold (d : Nat) (t : Nat) (p1 : Int32) (p2 : Int32) (p3 : Int32) (p4 : Int32) (M : Mem) (Q : Int64 → Mem → Prop) : WL (d + 1) i_MD_cold [.ref t, .int p1, .int p2, .int p3, .int p4] M Q ↔ (if mC M t = 7 then (WI d i_MD_isHerder [.ref t, .int p1] M (fun x2 M1 => (if x2 = 0 then Q ((-1) : Int64) M1 else (if mC M1 t = 7 then (WI d i_MD_isHerder [.ref t, .int p2] M1 (fun x4 M3 => (if x4 = 0 then Q ((-1) : Int64) M3 else (WI d i_MD_in [.long (Int32.toInt64 p3), .long (0 : Int64), .long (10 : Int64)] M3 (fun x6 M5 => (if x6 = 0 then Q ((-1) : Int64) M5 else (WI d i_MD_isTwo [.int p4] M5 (fun x8 M7 => (if x8 = 0 then Q ((-1) : Int64) M7 else (if mC M7 t = 7 then (if (mR M7 t 1) = 999999 then False else (if rdI (mC M7 (mR M7 t 1)) ∧ inb ((13 : Int32) + p1) (mL M7 (mR M7 t 1)) then (if mC M7 t = 7 then (if (mR M7 t 1) = 999999 then False else (if rdI (mC M7 (mR M7 t 1)) ∧ inb ((13 : Int32) + p2) (mL M7 (mR M7 t 1)) then (if (mI M7 (mR M7 t 1) (Int32.toNatClampNeg ((13 : Int32) + p1))) = (mI M7 (mR M7 t 1) (Int32.toNatClampNeg ((13 : Int32) + p2))) then Wn (d + 1) i_MD_cold 74 [(0, .ref t), (1, .int p1), (2, .int p2), (3, .int p3), (4, .int p4), (5, .long (1 : Int64)), (7, .long (1 : Int64)), (9, .int (0 : Int32))] [] M7 (QL Q) else Wn (d + 1) i_MD_cold 74 [(0, .ref t), (1, .int p1), (2, .int p2), (3, .int p3), (4, .int p4), (5, .long (0 : Int64)), (7, .long (1 : Int64)), (9, .int (0 : Int32))] [] M7 (QL Q)) else False)) else False) else False)) else False)))))))))) else False)))) else False) :=
  sy_iff 400 _ _ _ _ _ _ _
set_option maxRecDepth 100000 in
theorem H_MD_cold_74 (d : Nat) (v0 : Nat) (v1 : Int32) (v2 : Int32) (v3 : Int32) (v4 : Int32) (v5 : Int64) (v7 : Int64) (v9 : Int32) (M : Mem) (Q : Option Value → Mem → Prop) : Wn (d + 1) i_MD_cold 74 [(0, .ref v0), (1, .int v1), (2, .int v2), (3, .int v3), (4, .int v4), (5, .long v5), (7, .long v7), (9, .int v9)] [] M Q ↔ (if mC M v0 = 7 then (if (mR M v0 1) = 999999 then False else (if rdI (mC M (mR M v0 1)) ∧ inb ((13 : Int32) + v1) (mL M (mR M v0 1)) then (if v9 < (mI M (mR M v0 1) (Int32.toNatClampNeg ((13 : Int32) + v1))) then (if mC M v0 = 7 then (WI d i_MD_turnAt [.ref v0, .int v1, .int v9] M (fun x2 M1 => (if mC M1 v0 = 7 then (WI d i_MD_turnAt [.ref v0, .int v2, .int v9] M1 (fun x4 M3 => (if x4 = x2 then Wn (d + 1) i_MD_cold 74 [(0, .ref v0), (1, .int v1), (2, .int v2), (3, .int v3), (4, .int v4), (5, .long (v5 * (Int32.toInt64 ((10 : Int32) - v3)))), (7, .long (v7 * (10 : Int64))), (9, .int (v9 + (1 : Int32)))] [] M3 Q else (if x4 = ((x2 + (1 : Int32)) - (x2 + (1 : Int32)) / (6 : Int32) * (6 : Int32)) then Wn (d + 1) i_MD_cold 74 [(0, .ref v0), (1, .int v1), (2, .int v2), (3, .int v3), (4, .int v4), (5, .long (v5 * (Int32.toInt64 v3))), (7, .long (v7 * (10 : Int64))), (9, .int (v9 + (1 : Int32)))] [] M3 Q else Wn (d + 1) i_MD_cold 74 [(0, .ref v0), (1, .int v1), (2, .int v2), (3, .int v3), (4, .int v4), (5, .long (v5 * (0 : Int64))), (7, .long (v7 * (10 : Int64))), (9, .int (v9 + (1 : Int32)))] [] M3 Q)))) else False))) else False) else (WL d i_MD_least [.long v5, .long v7, .int v4] M (fun x6 M5 => Q (some (.long x6)) M5))) else False)) else False) :=
  sy_iff 400 _ _ _ _ _ _ _
set_option maxRecDepth 100000 in
theorem E_MD_mixed (d : Nat) (t : Nat) (p1 : Int32) (p2 : Int32) (M : Mem) (Q : Int32 → Mem → Prop) : WI (d + 1) i_MD_mixed [.ref t, .int p1, .int p2] M Q ↔ (if mC M t = 7 then (WI d i_MD_isHerder [.ref t, .int p1] M (fun x2 M1 => (if x2 = 0 then Q ((-1) : Int32) M1 else (WI d i_MD_in [.long (Int32.toInt64 p2), .long (0 : Int64), .long (12 : Int64)] M1 (fun x4 M3 => (if x4 = 0 then Q ((-1) : Int32) M3 else (if mC M3 t = 7 then (WI d i_MD_nearTo [.ref t, .int p1, .int p2] M3 (fun x6 M5 => Q x6 M5)) else False))))))) else False) :=
  sy_iff 400 _ _ _ _ _ _ _
set_option maxRecDepth 100000 in
theorem E_MD_isNew (d : Nat) (t : Nat) (p1 : Int32) (p2 : Int32) (p3 : Int32) (M : Mem) (Q : Int32 → Mem → Prop) : WI (d + 1) i_MD_isNew [.ref t, .int p1, .int p2, .int p3] M Q ↔ Wn (d + 1) i_MD_isNew 8 [(0, .ref t), (1, .int p1), (2, .int p2), (3, .int p3), (4, .int p3), (5, .int (p1 - (1 : Int32)))] [] M (QI Q) :=
  sy_iff 400 _ _ _ _ _ _ _
set_option maxRecDepth 100000 in
theorem H_MD_isNew_8 (d : Nat) (v0 : Nat) (v1 : Int32) (v2 : Int32) (v3 : Int32) (v4 : Int32) (v5 : Int32) (M : Mem) (Q : Option Value → Mem → Prop) : Wn (d + 1) i_MD_isNew 8 [(0, .ref v0), (1, .int v1), (2, .int v2), (3, .int v3), (4, .int v4), (5, .int v5)] [] M Q ↔ (if v5 < 0 then Wn (d + 1) i_MD_isNew 44 [(0, .ref v0), (1, .int v1), (2, .int v2), (3, .int v3), (4, .int v4), (5, .int (1 : Int32)), (6, .int (1 : Int32))] [] M Q else (if mC M v0 = 7 then (if (mR M v0 14) = 999999 then False else (if mC M (mR M v0 14) = 10 ∧ inb v5 (mL M (mR M v0 14)) then Wn (d + 1) i_MD_isNew 8 [(0, .ref v0), (1, .int v1), (2, .int v2), (3, .int v3), (4, .int (v4 / (6 : Int32))), (5, .int (v5 + ((-1) : Int32)))] [] (setI M (mR M v0 14) (Int32.toNatClampNeg v5) (v4 - v4 / (6 : Int32) * (6 : Int32))) Q else False)) else False)) :=
  sy_iff 400 _ _ _ _ _ _ _
set_option maxRecDepth 100000 in
theorem H_MD_isNew_44 (d : Nat) (v0 : Nat) (v1 : Int32) (v2 : Int32) (v3 : Int32) (v4 : Int32) (v5 : Int32) (v6 : Int32) (M : Mem) (Q : Option Value → Mem → Prop) : Wn (d + 1) i_MD_isNew 44 [(0, .ref v0), (1, .int v1), (2, .int v2), (3, .int v3), (4, .int v4), (5, .int v5), (6, .int v6)] [] M Q ↔ (if v6 < v1 then (if v5 = 0 then Wn (d + 1) i_MD_isNew 44 [(0, .ref v0), (1, .int v1), (2, .int v2), (3, .int v3), (4, .int v4), (5, .int (0 : Int32)), (6, .int (v6 + (1 : Int32)))] [] M Q else (if mC M v0 = 7 then (if (mR M v0 14) = 999999 then False else (if rdI (mC M (mR M v0 14)) ∧ inb v6 (mL M (mR M v0 14)) then (if mC M v0 = 7 then (if (mR M v0 14) = 999999 then False else (if rdI (mC M (mR M v0 14)) ∧ inb (v6 - (1 : Int32)) (mL M (mR M v0 14)) then (if (mI M (mR M v0 14) (Int32.toNatClampNeg v6)) = ((mI M (mR M v0 14) (Int32.toNatClampNeg (v6 - (1 : Int32)))) ^^^ (1 : Int32)) then Wn (d + 1) i_MD_isNew 44 [(0, .ref v0), (1, .int v1), (2, .int v2), (3, .int v3), (4, .int v4), (5, .int (0 : Int32)), (6, .int (v6 + (1 : Int32)))] [] M Q else Wn (d + 1) i_MD_isNew 44 [(0, .ref v0), (1, .int v1), (2, .int v2), (3, .int v3), (4, .int v4), (5, .int (1 : Int32)), (6, .int (v6 + (1 : Int32)))] [] M Q) else False)) else False) else False)) else False)) else Wn (d + 1) i_MD_isNew 92 [(0, .ref v0), (1, .int v1), (2, .int v2), (3, .int v3), (4, .int v4), (5, .int v5), (6, .int (0 : Int32))] [] M Q) :=
  sy_iff 400 _ _ _ _ _ _ _
set_option maxRecDepth 100000 in
theorem H_MD_isNew_92 (d : Nat) (v0 : Nat) (v1 : Int32) (v2 : Int32) (v3 : Int32) (v4 : Int32) (v5 : Int32) (v6 : Int32) (M : Mem) (Q : Option Value → Mem → Prop) : Wn (d + 1) i_MD_isNew 92 [(0, .ref v0), (1, .int v1), (2, .int v2), (3, .int v3), (4, .int v4), (5, .int v5), (6, .int v6)] [] M Q ↔ (if mC M v0 = 7 then (if v6 < (mI M v0 0) then (if v5 = 0 then (if v5 = 0 ∨ v5 = 1 then Q (some (.int v5)) M else False) else Wn (d + 1) i_MD_isNew 112 [(0, .ref v0), (1, .int v1), (2, .int v2), (3, .int v3), (4, .int v4), (5, .int v5), (6, .int v6), (7, .int (0 : Int32)), (8, .int (0 : Int32))] [] M Q) else (if v5 = 0 ∨ v5 = 1 then Q (some (.int v5)) M else False)) else False) :=
  sy_iff 400 _ _ _ _ _ _ _
set_option maxRecDepth 100000 in
theorem H_MD_isNew_112 (d : Nat) (v0 : Nat) (v1 : Int32) (v2 : Int32) (v3 : Int32) (v4 : Int32) (v5 : Int32) (v6 : Int32) (v7 : Int32) (v8 : Int32) (M : Mem) (Q : Option Value → Mem → Prop) : Wn (d + 1) i_MD_isNew 112 [(0, .ref v0), (1, .int v1), (2, .int v2), (3, .int v3), (4, .int v4), (5, .int v5), (6, .int v6), (7, .int v7), (8, .int v8)] [] M Q ↔ (if v8 < v1 then (if mC M v0 = 7 then (if (mR M v0 1) = 999999 then False else (if rdI (mC M (mR M v0 1)) ∧ inb ((13 : Int32) + v6) (mL M (mR M v0 1)) then (if (mI M (mR M v0 1) (Int32.toNatClampNeg ((13 : Int32) + v6))) = v1 then (if mC M v0 = 7 then (WI d i_MD_turnAt [.ref v0, .int v6, .int v8] M (fun x2 M1 => (if mC M1 v0 = 7 then (if (mR M1 v0 14) = 999999 then False else (if rdI (mC M1 (mR M1 v0 14)) ∧ inb v8 (mL M1 (mR M1 v0 14)) then (if x2 = (mI M1 (mR M1 v0 14) (Int32.toNatClampNeg v8)) then Wn (d + 1) i_MD_isNew 112 [(0, .ref v0), (1, .int v1), (2, .int v2), (3, .int v3), (4, .int v4), (5, .int v5), (6, .int v6), (7, .int (v7 + (0 : Int32))), (8, .int (v8 + (1 : Int32)))] [] M1 Q else Wn (d + 1) i_MD_isNew 112 [(0, .ref v0), (1, .int v1), (2, .int v2), (3, .int v3), (4, .int v4), (5, .int v5), (6, .int v6), (7, .int (v7 + (1 : Int32))), (8, .int (v8 + (1 : Int32)))] [] M1 Q) else False)) else False))) else False) else (if mC M v0 = 7 then (if (mR M v0 1) = 999999 then False else (if rdI (mC M (mR M v0 1)) ∧ inb ((13 : Int32) + v6) (mL M (mR M v0 1)) then (if (mI M (mR M v0 1) (Int32.toNatClampNeg ((13 : Int32) + v6))) = v1 then (if v7 < v2 then Wn (d + 1) i_MD_isNew 92 [(0, .ref v0), (1, .int v1), (2, .int v2), (3, .int v3), (4, .int v4), (5, .int (0 : Int32)), (6, .int (v6 + (1 : Int32)))] [] M Q else Wn (d + 1) i_MD_isNew 92 [(0, .ref v0), (1, .int v1), (2, .int v2), (3, .int v3), (4, .int v4), (5, .int (1 : Int32)), (6, .int (v6 + (1 : Int32)))] [] M Q) else Wn (d + 1) i_MD_isNew 92 [(0, .ref v0), (1, .int v1), (2, .int v2), (3, .int v3), (4, .int v4), (5, .int (1 : Int32)), (6, .int (v6 + (1 : Int32)))] [] M Q) else False)) else False)) else False)) else False) else (if mC M v0 = 7 then (if (mR M v0 1) = 999999 then False else (if rdI (mC M (mR M v0 1)) ∧ inb ((13 : Int32) + v6) (mL M (mR M v0 1)) then (if (mI M (mR M v0 1) (Int32.toNatClampNeg ((13 : Int32) + v6))) = v1 then (if v7 < v2 then Wn (d + 1) i_MD_isNew 92 [(0, .ref v0), (1, .int v1), (2, .int v2), (3, .int v3), (4, .int v4), (5, .int (0 : Int32)), (6, .int (v6 + (1 : Int32)))] [] M Q else Wn (d + 1) i_MD_isNew 92 [(0, .ref v0), (1, .int v1), (2, .int v2), (3, .int v3), (4, .int v4), (5, .int (1 : Int32)), (6, .int (v6 + (1 : Int32)))] [] M Q) else Wn (d + 1) i_MD_isNew 92 [(0, .ref v0), (1, .int v1), (2, .int v2), (3, .int v3), (4, .int v4), (5, .int (1 : Int32)), (6, .int (v6 + (1 : Int32)))] [] M Q) else False)) else False)) :=
  sy_iff 400 _ _ _ _ _ _ _
set_option maxRecDepth 100000 in
theorem E_MD_newName (d : Nat) (t : Nat) (p1 : Int32) (p2 : Int32) (p3 : Int32) (M : Mem) (Q : Int32 → Mem → Prop) : WI (d + 1) i_MD_newName [.ref t, .int p1, .int p2, .int p3] M Q ↔ (WI d i_MD_in [.long (Int32.toInt64 p1), .long (1 : Int64), .long (4 : Int64)] M (fun x2 M1 => (if x2 = 0 then Q ((-1) : Int32) M1 else (WI d i_MD_in [.long (Int32.toInt64 p2), .long (1 : Int64), .long (4 : Int64)] M1 (fun x4 M3 => (if x4 = 0 then Q ((-1) : Int32) M3 else (WI d i_MD_in [.long (Int32.toInt64 p3), .long ((-1) : Int64), .long (Int32.toInt64 (p1 - (1 : Int32)))] M3 (fun x6 M5 => (if x6 = 0 then Q ((-1) : Int32) M5 else Wn (d + 1) i_MD_newName 47 [(0, .ref t), (1, .int p1), (2, .int p2), (3, .int p3), (4, .int (1 : Int32)), (5, .int (0 : Int32))] [] M5 (QI Q)))))))))) :=
  sy_iff 400 _ _ _ _ _ _ _
set_option maxRecDepth 100000 in
theorem H_MD_newName_47 (d : Nat) (v0 : Nat) (v1 : Int32) (v2 : Int32) (v3 : Int32) (v4 : Int32) (v5 : Int32) (M : Mem) (Q : Option Value → Mem → Prop) : Wn (d + 1) i_MD_newName 47 [(0, .ref v0), (1, .int v1), (2, .int v2), (3, .int v3), (4, .int v4), (5, .int v5)] [] M Q ↔ (if v5 < v1 then Wn (d + 1) i_MD_newName 47 [(0, .ref v0), (1, .int v1), (2, .int v2), (3, .int v3), (4, .int (v4 * (6 : Int32))), (5, .int (v5 + (1 : Int32)))] [] M Q else Wn (d + 1) i_MD_newName 79 [(0, .ref v0), (1, .int v1), (2, .int v2), (3, .int v3), (4, .int v4), (5, .int (0 : Int32)), (6, .int ((-9) : Int32)), (7, .int (v4 - (1 : Int32)))] [] M Q) :=
  sy_iff 400 _ _ _ _ _ _ _
set_option maxRecDepth 100000 in
theorem H_MD_newName_79 (d : Nat) (v0 : Nat) (v1 : Int32) (v2 : Int32) (v3 : Int32) (v4 : Int32) (v5 : Int32) (v6 : Int32) (v7 : Int32) (M : Mem) (Q : Option Value → Mem → Prop) : Wn (d + 1) i_MD_newName 79 [(0, .ref v0), (1, .int v1), (2, .int v2), (3, .int v3), (4, .int v4), (5, .int v5), (6, .int v6), (7, .int v7)] [] M Q ↔ (if v7 < 0 then (if v3 < 0 then (if v3 < 0 then Q (some (.int v5)) M else Q (some (.int ((-9) : Int32))) M) else (if v6 = ((-9) : Int32) then (if v3 < 0 then Q (some (.int v5)) M else Q (some (.int ((-9) : Int32))) M) else (if mC M v0 = 7 then (WI d i_MD_isNew [.ref v0, .int v1, .int v2, .int v6] M (fun x2 M1 => (if x2 = 0 then Q (some (.int ((-9) : Int32))) M1 else (if mC M1 v0 = 7 then (if (mR M1 v0 14) = 999999 then False else (if rdI (mC M1 (mR M1 v0 14)) ∧ inb v3 (mL M1 (mR M1 v0 14)) then Q (some (.int (mI M1 (mR M1 v0 14) (Int32.toNatClampNeg v3)))) M1 else False)) else False)))) else False))) else (if mC M v0 = 7 then (WI d i_MD_isNew [.ref v0, .int v1, .int v2, .int v7] M (fun x4 M3 => (if x4 = 0 then (if x4 = 0 then Wn (d + 1) i_MD_newName 79 [(0, .ref v0), (1, .int v1), (2, .int v2), (3, .int v3), (4, .int v4), (5, .int (v5 + (0 : Int32))), (6, .int v6), (7, .int (v7 + ((-1) : Int32)))] [] M3 Q else Wn (d + 1) i_MD_newName 79 [(0, .ref v0), (1, .int v1), (2, .int v2), (3, .int v3), (4, .int v4), (5, .int (v5 + (0 : Int32))), (6, .int v7), (7, .int (v7 + ((-1) : Int32)))] [] M3 Q) else (if x4 = 0 then Wn (d + 1) i_MD_newName 79 [(0, .ref v0), (1, .int v1), (2, .int v2), (3, .int v3), (4, .int v4), (5, .int (v5 + (1 : Int32))), (6, .int v6), (7, .int (v7 + ((-1) : Int32)))] [] M3 Q else Wn (d + 1) i_MD_newName 79 [(0, .ref v0), (1, .int v1), (2, .int v2), (3, .int v3), (4, .int v4), (5, .int (v5 + (1 : Int32))), (6, .int v7), (7, .int (v7 + ((-1) : Int32)))] [] M3 Q)))) else False)) :=
  sy_iff 400 _ _ _ _ _ _ _
set_option maxRecDepth 100000 in
theorem E_MD_mend (d : Nat) (t : Nat) (M : Mem) (Q : Int32 → Mem → Prop) : WI d i_MD_mend [.ref t] M Q ↔ (if mC M t = 7 then (if (mR M t 1) = 999999 then False else (if rdI (mC M (mR M t 1)) ∧ inb (0 : Int32) (mL M (mR M t 1)) then Wn d i_MD_mend 9 [(0, .ref t), (1, .int (mI M (mR M t 1) (Int32.toNatClampNeg (0 : Int32)))), (2, .int (0 : Int32))] [] M (QI Q) else False)) else False) :=
  sy_iff 400 _ _ _ _ _ _ _
set_option maxRecDepth 100000 in
theorem H_MD_mend_9 (d : Nat) (v0 : Nat) (v1 : Int32) (v2 : Int32) (M : Mem) (Q : Option Value → Mem → Prop) : Wn d i_MD_mend 9 [(0, .ref v0), (1, .int v1), (2, .int v2)] [] M Q ↔ (if v1 < v2 then (if mC M v0 = 7 then (if (mR M v0 15) = 999999 then False else (if rdI (mC M (mR M v0 15)) ∧ inb v1 (mL M (mR M v0 15)) then Q (some (.int (v1 - ((2 : Int32) * (mI M (mR M v0 15) (Int32.toNatClampNeg v1)))))) M else False)) else False) else Wn d i_MD_mend 16 [(0, .ref v0), (1, .int v1), (2, .int v2), (3, .int (0 : Int32))] [] M Q) :=
  sy_iff 400 _ _ _ _ _ _ _
set_option maxRecDepth 100000 in
theorem H_MD_mend_16 (d : Nat) (v0 : Nat) (v1 : Int32) (v2 : Int32) (v3 : Int32) (M : Mem) (Q : Option Value → Mem → Prop) : Wn d i_MD_mend 16 [(0, .ref v0), (1, .int v1), (2, .int v2), (3, .int v3)] [] M Q ↔ (if v1 < (v3 + v2) then Wn d i_MD_mend 9 [(0, .ref v0), (1, .int v1), (2, .int (v2 + (1 : Int32)))] [] M Q else (if v2 < (2 : Int32) then Wn d i_MD_mend 58 [(0, .ref v0), (1, .int v1), (2, .int v2), (3, .int v3), (4, .int (v3 + v2)), (5, .int (0 : Int32)), (6, .int (v3 + (1 : Int32)))] [] M Q else (if mC M v0 = 7 then (if (mR M v0 15) = 999999 then False else (if rdI (mC M (mR M v0 15)) ∧ inb (((13 : Int32) * (v3 + (1 : Int32))) + (v3 + v2)) (mL M (mR M v0 15)) then Wn d i_MD_mend 58 [(0, .ref v0), (1, .int v1), (2, .int v2), (3, .int v3), (4, .int (v3 + v2)), (5, .int (mI M (mR M v0 15) (Int32.toNatClampNeg (((13 : Int32) * (v3 + (1 : Int32))) + (v3 + v2))))), (6, .int (v3 + (1 : Int32)))] [] M Q else False)) else False))) :=
  sy_iff 400 _ _ _ _ _ _ _
set_option maxRecDepth 100000 in
theorem H_MD_mend_58 (d : Nat) (v0 : Nat) (v1 : Int32) (v2 : Int32) (v3 : Int32) (v4 : Int32) (v5 : Int32) (v6 : Int32) (M : Mem) (Q : Option Value → Mem → Prop) : Wn d i_MD_mend 58 [(0, .ref v0), (1, .int v1), (2, .int v2), (3, .int v3), (4, .int v4), (5, .int v5), (6, .int v6)] [] M Q ↔ (if v6 < v4 then (if mC M v0 = 7 then (if (mR M v0 1) = 999999 then False else (if rdI (mC M (mR M v0 1)) ∧ inb ((1 : Int32) + v6) (mL M (mR M v0 1)) then (if mC M v0 = 7 then (if (mR M v0 1) = 999999 then False else (if rdI (mC M (mR M v0 1)) ∧ inb ((1 : Int32) + v3) (mL M (mR M v0 1)) then (if (mI M (mR M v0 1) (Int32.toNatClampNeg ((1 : Int32) + v6))) = ((mI M (mR M v0 1) (Int32.toNatClampNeg ((1 : Int32) + v3))) ^^^ (1 : Int32)) then (if (1 : Int32) = 0 then (if v5 < (0 : Int32) then Wn d i_MD_mend 58 [(0, .ref v0), (1, .int v1), (2, .int v2), (3, .int v3), (4, .int v4), (5, .int (0 : Int32)), (6, .int (v6 + (1 : Int32)))] [] M Q else Wn d i_MD_mend 58 [(0, .ref v0), (1, .int v1), (2, .int v2), (3, .int v3), (4, .int v4), (5, .int v5), (6, .int (v6 + (1 : Int32)))] [] M Q) else (if mC M v0 = 7 then (if (mR M v0 15) = 999999 then False else (if rdI (mC M (mR M v0 15)) ∧ inb (((13 : Int32) * (v3 + (1 : Int32))) + v6) (mL M (mR M v0 15)) then (if mC M v0 = 7 then (if (mR M v0 15) = 999999 then False else (if rdI (mC M (mR M v0 15)) ∧ inb (((13 : Int32) * (v6 + (1 : Int32))) + v4) (mL M (mR M v0 15)) then (if v5 < (((1 : Int32) + (mI M (mR M v0 15) (Int32.toNatClampNeg (((13 : Int32) * (v3 + (1 : Int32))) + v6)))) + (mI M (mR M v0 15) (Int32.toNatClampNeg (((13 : Int32) * (v6 + (1 : Int32))) + v4)))) then Wn d i_MD_mend 58 [(0, .ref v0), (1, .int v1), (2, .int v2), (3, .int v3), (4, .int v4), (5, .int (((1 : Int32) + (mI M (mR M v0 15) (Int32.toNatClampNeg (((13 : Int32) * (v3 + (1 : Int32))) + v6)))) + (mI M (mR M v0 15) (Int32.toNatClampNeg (((13 : Int32) * (v6 + (1 : Int32))) + v4))))), (6, .int (v6 + (1 : Int32)))] [] M Q else Wn d i_MD_mend 58 [(0, .ref v0), (1, .int v1), (2, .int v2), (3, .int v3), (4, .int v4), (5, .int v5), (6, .int (v6 + (1 : Int32)))] [] M Q) else False)) else False) else False)) else False)) else (if (0 : Int32) = 0 then (if v5 < (0 : Int32) then Wn d i_MD_mend 58 [(0, .ref v0), (1, .int v1), (2, .int v2), (3, .int v3), (4, .int v4), (5, .int (0 : Int32)), (6, .int (v6 + (1 : Int32)))] [] M Q else Wn d i_MD_mend 58 [(0, .ref v0), (1, .int v1), (2, .int v2), (3, .int v3), (4, .int v4), (5, .int v5), (6, .int (v6 + (1 : Int32)))] [] M Q) else (if mC M v0 = 7 then (if (mR M v0 15) = 999999 then False else (if rdI (mC M (mR M v0 15)) ∧ inb (((13 : Int32) * (v3 + (1 : Int32))) + v6) (mL M (mR M v0 15)) then (if mC M v0 = 7 then (if (mR M v0 15) = 999999 then False else (if rdI (mC M (mR M v0 15)) ∧ inb (((13 : Int32) * (v6 + (1 : Int32))) + v4) (mL M (mR M v0 15)) then (if v5 < (((1 : Int32) + (mI M (mR M v0 15) (Int32.toNatClampNeg (((13 : Int32) * (v3 + (1 : Int32))) + v6)))) + (mI M (mR M v0 15) (Int32.toNatClampNeg (((13 : Int32) * (v6 + (1 : Int32))) + v4)))) then Wn d i_MD_mend 58 [(0, .ref v0), (1, .int v1), (2, .int v2), (3, .int v3), (4, .int v4), (5, .int (((1 : Int32) + (mI M (mR M v0 15) (Int32.toNatClampNeg (((13 : Int32) * (v3 + (1 : Int32))) + v6)))) + (mI M (mR M v0 15) (Int32.toNatClampNeg (((13 : Int32) * (v6 + (1 : Int32))) + v4))))), (6, .int (v6 + (1 : Int32)))] [] M Q else Wn d i_MD_mend 58 [(0, .ref v0), (1, .int v1), (2, .int v2), (3, .int v3), (4, .int v4), (5, .int v5), (6, .int (v6 + (1 : Int32)))] [] M Q) else False)) else False) else False)) else False))) else False)) else False) else False)) else False) else (if mC M v0 = 7 then (if (mR M v0 15) = 999999 then False else (if mC M (mR M v0 15) = 10 ∧ inb (((13 : Int32) * v3) + v4) (mL M (mR M v0 15)) then Wn d i_MD_mend 16 [(0, .ref v0), (1, .int v1), (2, .int v2), (3, .int (v3 + (1 : Int32)))] [] (setI M (mR M v0 15) (Int32.toNatClampNeg (((13 : Int32) * v3) + v4)) v5) Q else False)) else False)) :=
  sy_iff 400 _ _ _ _ _ _ _
set_option maxRecDepth 100000 in
theorem E_MD_tieContract (d : Nat) (t : Nat) (M : Mem) (Q : Mem → Prop) : WV (d + 1) i_MD_tieContract [.ref t] M Q ↔ (if mC M t = 7 then (if mC (setI M t 10 (0 : Int32)) t = 7 then (if (mR (setI M t 10 (0 : Int32)) t 1) = 999999 then False else (if rdI (mC (setI M t 10 (0 : Int32)) (mR (setI M t 10 (0 : Int32)) t 1)) ∧ inb (0 : Int32) (mL (setI M t 10 (0 : Int32)) (mR (setI M t 10 (0 : Int32)) t 1)) then (if mC (setI M t 10 (0 : Int32)) t = 7 then (WV d i_MD_tieRow [.ref t, .int (1 : Int32), .int (mI (setI M t 10 (0 : Int32)) (mR (setI M t 10 (0 : Int32)) t 1) (Int32.toNatClampNeg (0 : Int32)))] (setI M t 10 (0 : Int32)) (fun M1 => Q M1)) else False) else False)) else False) else False) :=
  sy_iff 400 _ _ _ _ _ _ _
set_option maxRecDepth 100000 in
theorem E_MD_pulls (d : Nat) (t : Nat) (p1 : Int32) (M : Mem) (Q : Int32 → Mem → Prop) : WI (d + 1) i_MD_pulls [.ref t, .int p1] M Q ↔ (WI d i_MD_in [.long (Int32.toInt64 p1), .long (0 : Int64), .long (3 : Int64)] M (fun x2 M1 => (if x2 = 0 then Q ((-1) : Int32) M1 else (if mC M1 t = 7 then (WV d i_MD_tieContract [.ref t] M1 (fun M3 => (if p1 = 0 then (if mC M3 t = 7 then (if (mI M3 t 10) = 0 then Q (1 : Int32) M3 else Q (0 : Int32) M3) else False) else (if p1 = (1 : Int32) then (if mC M3 t = 7 then Q (mI M3 t 10) M3 else False) else (if p1 = (2 : Int32) then (if mC M3 t = 7 then (WI d i_MD_mend [.ref t] M3 (fun x5 M4 => Q x5 M4)) else False) else (if mC M3 t = 7 then (if (mR M3 t 1) = 999999 then False else (if rdI (mC M3 (mR M3 t 1)) ∧ inb (0 : Int32) (mL M3 (mR M3 t 1)) then (if mC M3 t = 7 then Q (((mI M3 (mR M3 t 1) (Int32.toNatClampNeg (0 : Int32))) - (mI M3 t 10)) / (2 : Int32)) M3 else False) else False)) else False)))))) else False)))) :=
  sy_iff 400 _ _ _ _ _ _ _
set_option maxRecDepth 100000 in
theorem E_MD_isLife (d : Nat) (t : Nat) (p1 : Int32) (p2 : Int32) (M : Mem) (Q : Int32 → Mem → Prop) : WI (d + 1) i_MD_isLife [.ref t, .int p1, .int p2] M Q ↔ Wn (d + 1) i_MD_isLife 10 [(0, .ref t), (1, .int p1), (2, .int p2), (3, .int p2), (4, .int (0 : Int32)), (5, .int (p1 - (1 : Int32)))] [] M (QI Q) :=
  sy_iff 400 _ _ _ _ _ _ _
set_option maxRecDepth 100000 in
theorem H_MD_isLife_10 (d : Nat) (v0 : Nat) (v1 : Int32) (v2 : Int32) (v3 : Int32) (v4 : Int32) (v5 : Int32) (M : Mem) (Q : Option Value → Mem → Prop) : Wn (d + 1) i_MD_isLife 10 [(0, .ref v0), (1, .int v1), (2, .int v2), (3, .int v3), (4, .int v4), (5, .int v5)] [] M Q ↔ (if v5 < 0 then (WI d i_MD_bits [.int v4] M (fun x2 M1 => (if x2 = v1 then (if mC M1 v0 = 7 then Wn (d + 1) i_MD_isLife 88 [(0, .ref v0), (1, .int v1), (2, .int v2), (3, .int v3), (4, .int v4), (5, .int (0 : Int32))] [] (setI M1 v0 10 (0 : Int32)) Q else False) else Q (some (.int (0 : Int32))) M1))) else (if mC M v0 = 7 then (if (mR M v0 16) = 999999 then False else (if mC M (mR M v0 16) = 10 ∧ inb v5 (mL M (mR M v0 16)) then (if mC (setI M (mR M v0 16) (Int32.toNatClampNeg v5) (v3 - v3 / (6 : Int32) * (6 : Int32))) v0 = 7 then (if (mR (setI M (mR M v0 16) (Int32.toNatClampNeg v5) (v3 - v3 / (6 : Int32) * (6 : Int32))) v0 16) = 999999 then False else (if rdI (mC (setI M (mR M v0 16) (Int32.toNatClampNeg v5) (v3 - v3 / (6 : Int32) * (6 : Int32))) (mR (setI M (mR M v0 16) (Int32.toNatClampNeg v5) (v3 - v3 / (6 : Int32) * (6 : Int32))) v0 16)) ∧ inb v5 (mL (setI M (mR M v0 16) (Int32.toNatClampNeg v5) (v3 - v3 / (6 : Int32) * (6 : Int32))) (mR (setI M (mR M v0 16) (Int32.toNatClampNeg v5) (v3 - v3 / (6 : Int32) * (6 : Int32))) v0 16)) then (if mC (setI M (mR M v0 16) (Int32.toNatClampNeg v5) (v3 - v3 / (6 : Int32) * (6 : Int32))) v0 = 7 then (WI d i_MD_isHerder [.ref v0, .int (mI (setI M (mR M v0 16) (Int32.toNatClampNeg v5) (v3 - v3 / (6 : Int32) * (6 : Int32))) (mR (setI M (mR M v0 16) (Int32.toNatClampNeg v5) (v3 - v3 / (6 : Int32) * (6 : Int32))) v0 16) (Int32.toNatClampNeg v5))] (setI M (mR M v0 16) (Int32.toNatClampNeg v5) (v3 - v3 / (6 : Int32) * (6 : Int32))) (fun x4 M3 => (if x4 = 0 then Wn (d + 1) i_MD_isLife 10 [(0, .ref v0), (1, .int v1), (2, .int v2), (3, .int (v3 / (6 : Int32))), (4, .int (v4 ||| (0 : Int32))), (5, .int (v5 + ((-1) : Int32)))] [] M3 Q else (if mC M3 v0 = 7 then (if (mR M3 v0 16) = 999999 then False else (if rdI (mC M3 (mR M3 v0 16)) ∧ inb v5 (mL M3 (mR M3 v0 16)) then Wn (d + 1) i_MD_isLife 10 [(0, .ref v0), (1, .int v1), (2, .int v2), (3, .int (v3 / (6 : Int32))), (4, .int (v4 ||| ((1 : Int32) <<< ((mI M3 (mR M3 v0 16) (Int32.toNatClampNeg v5)) &&& 31)))), (5, .int (v5 + ((-1) : Int32)))] [] M3 Q else False)) else False)))) else False) else False)) else False) else False)) else False)) :=
  sy_iff 400 _ _ _ _ _ _ _
set_option maxRecDepth 100000 in
theorem H_MD_isLife_88 (d : Nat) (v0 : Nat) (v1 : Int32) (v2 : Int32) (v3 : Int32) (v4 : Int32) (v5 : Int32) (M : Mem) (Q : Option Value → Mem → Prop) : Wn (d + 1) i_MD_isLife 88 [(0, .ref v0), (1, .int v1), (2, .int v2), (3, .int v3), (4, .int v4), (5, .int v5)] [] M Q ↔ (if v5 < v1 then (if mC M v0 = 7 then (if (mR M v0 16) = 999999 then False else (if rdI (mC M (mR M v0 16)) ∧ inb v5 (mL M (mR M v0 16)) then (if mC M v0 = 7 then (WV d i_MD_tieName [.ref v0, .int (mI M (mR M v0 16) (Int32.toNatClampNeg v5))] M (fun M1 => Wn (d + 1) i_MD_isLife 88 [(0, .ref v0), (1, .int v1), (2, .int v2), (3, .int v3), (4, .int v4), (5, .int (v5 + (1 : Int32)))] [] M1 Q)) else False) else False)) else False) else (if mC M v0 = 7 then (if mC M v0 = 7 then (if (mI M v0 10) = (mI M v0 18) then Wn (d + 1) i_MD_isLife 132 [(0, .ref v0), (1, .int v1), (2, .int v2), (3, .int v3), (4, .int v4), (5, .int (1 : Int32)), (6, .int (0 : Int32))] [] M Q else Wn (d + 1) i_MD_isLife 132 [(0, .ref v0), (1, .int v1), (2, .int v2), (3, .int v3), (4, .int v4), (5, .int (0 : Int32)), (6, .int (0 : Int32))] [] M Q) else False) else False)) :=
  sy_iff 400 _ _ _ _ _ _ _
set_option maxRecDepth 100000 in
theorem H_MD_isLife_132 (d : Nat) (v0 : Nat) (v1 : Int32) (v2 : Int32) (v3 : Int32) (v4 : Int32) (v5 : Int32) (v6 : Int32) (M : Mem) (Q : Option Value → Mem → Prop) : Wn (d + 1) i_MD_isLife 132 [(0, .ref v0), (1, .int v1), (2, .int v2), (3, .int v3), (4, .int v4), (5, .int v5), (6, .int v6)] [] M Q ↔ (if mC M v0 = 7 then (if v6 < (mI M v0 10) then (if v5 = 0 then (if v5 = 0 ∨ v5 = 1 then Q (some (.int v5)) M else False) else (if mC M v0 = 7 then (if (mR M v0 9) = 999999 then False else (if rdI (mC M (mR M v0 9)) ∧ inb v6 (mL M (mR M v0 9)) then (if mC M v0 = 7 then (if (mR M v0 17) = 999999 then False else (if rdI (mC M (mR M v0 17)) ∧ inb v6 (mL M (mR M v0 17)) then (if (mI M (mR M v0 9) (Int32.toNatClampNeg v6)) = (mI M (mR M v0 17) (Int32.toNatClampNeg v6)) then Wn (d + 1) i_MD_isLife 132 [(0, .ref v0), (1, .int v1), (2, .int v2), (3, .int v3), (4, .int v4), (5, .int (1 : Int32)), (6, .int (v6 + (1 : Int32)))] [] M Q else Wn (d + 1) i_MD_isLife 132 [(0, .ref v0), (1, .int v1), (2, .int v2), (3, .int v3), (4, .int v4), (5, .int (0 : Int32)), (6, .int (v6 + (1 : Int32)))] [] M Q) else False)) else False) else False)) else False)) else (if v5 = 0 ∨ v5 = 1 then Q (some (.int v5)) M else False)) else False) :=
  sy_iff 400 _ _ _ _ _ _ _
set_option maxRecDepth 100000 in
theorem E_MD_layContract (d : Nat) (t : Nat) (M : Mem) (Q : Mem → Prop) : WV (d + 1) i_MD_layContract [.ref t] M Q ↔ (if mC M t = 7 then (WV d i_MD_tieContract [.ref t] M (fun M1 => (if mC M1 t = 7 then (if mC M1 t = 7 then Wn (d + 1) i_MD_layContract 14 [(0, .ref t), (1, .int (0 : Int32))] [] (setI M1 t 18 (mI M1 t 10)) (QV Q) else False) else False))) else False) :=
  sy_iff 400 _ _ _ _ _ _ _
set_option maxRecDepth 100000 in
theorem H_MD_layContract_14 (d : Nat) (v0 : Nat) (v1 : Int32) (M : Mem) (Q : Option Value → Mem → Prop) : Wn (d + 1) i_MD_layContract 14 [(0, .ref v0), (1, .int v1)] [] M Q ↔ (if mC M v0 = 7 then (if v1 < (mI M v0 10) then (if mC M v0 = 7 then (if (mR M v0 17) = 999999 then False else (if mC M v0 = 7 then (if (mR M v0 9) = 999999 then False else (if rdI (mC M (mR M v0 9)) ∧ inb v1 (mL M (mR M v0 9)) then (if mC M (mR M v0 17) = 10 ∧ inb v1 (mL M (mR M v0 17)) then Wn (d + 1) i_MD_layContract 14 [(0, .ref v0), (1, .int (v1 + (1 : Int32)))] [] (setI M (mR M v0 17) (Int32.toNatClampNeg v1) (mI M (mR M v0 9) (Int32.toNatClampNeg v1))) Q else False) else False)) else False)) else False) else Q none M) else False) :=
  sy_iff 400 _ _ _ _ _ _ _
set_option maxRecDepth 100000 in
theorem E_MD_lives (d : Nat) (t : Nat) (p1 : Int32) (M : Mem) (Q : Int32 → Mem → Prop) : WI (d + 1) i_MD_lives [.ref t, .int p1] M Q ↔ (if p1 < ((-1) : Int32) then Q ((-1) : Int32) M else (if mC M t = 7 then (WV d i_MD_layContract [.ref t] M (fun M1 => Wn (d + 1) i_MD_lives 25 [(0, .ref t), (1, .int p1), (2, .int (0 : Int32)), (3, .int ((-9) : Int32)), (4, .int (0 : Int32)), (5, .int (1 : Int32)), (6, .int (1 : Int32))] [] M1 (QI Q))) else False)) :=
  sy_iff 400 _ _ _ _ _ _ _
set_option maxRecDepth 100000 in
theorem H_MD_lives_25 (d : Nat) (v0 : Nat) (v1 : Int32) (v2 : Int32) (v3 : Int32) (v4 : Int32) (v5 : Int32) (v6 : Int32) (M : Mem) (Q : Option Value → Mem → Prop) : Wn (d + 1) i_MD_lives 25 [(0, .ref v0), (1, .int v1), (2, .int v2), (3, .int v3), (4, .int v4), (5, .int v5), (6, .int v6)] [] M Q ↔ (if mC M v0 = 7 then (if (mI M v0 0) < v6 then (if v1 < 0 then Q (some (.int v2)) M else (if v3 = ((-9) : Int32) then Q (some (.int ((-9) : Int32))) M else (if mC M v0 = 7 then (WI d i_MD_isLife [.ref v0, .int v4, .int v3] M (fun x2 M1 => (if x2 = 0 then Q (some (.int ((-5) : Int32))) M1 else (if v1 < v4 then (if mC M1 v0 = 7 then (if (mR M1 v0 16) = 999999 then False else (if rdI (mC M1 (mR M1 v0 16)) ∧ inb v1 (mL M1 (mR M1 v0 16)) then Q (some (.int (mI M1 (mR M1 v0 16) (Int32.toNatClampNeg v1)))) M1 else False)) else False) else Q (some (.int ((-5) : Int32))) M1)))) else False))) else Wn (d + 1) i_MD_lives 44 [(0, .ref v0), (1, .int v1), (2, .int v2), (3, .int v3), (4, .int v4), (5, .int (v5 * (6 : Int32))), (6, .int v6), (7, .int (0 : Int32))] [] M Q) else False) :=
  sy_iff 400 _ _ _ _ _ _ _
set_option maxRecDepth 100000 in
theorem H_MD_lives_44 (d : Nat) (v0 : Nat) (v1 : Int32) (v2 : Int32) (v3 : Int32) (v4 : Int32) (v5 : Int32) (v6 : Int32) (v7 : Int32) (M : Mem) (Q : Option Value → Mem → Prop) : Wn (d + 1) i_MD_lives 44 [(0, .ref v0), (1, .int v1), (2, .int v2), (3, .int v3), (4, .int v4), (5, .int v5), (6, .int v6), (7, .int v7)] [] M Q ↔ (if v7 < v5 then (if mC M v0 = 7 then (WI d i_MD_isLife [.ref v0, .int v6, .int v7] M (fun x2 M1 => (if x2 = 0 then Wn (d + 1) i_MD_lives 44 [(0, .ref v0), (1, .int v1), (2, .int v2), (3, .int v3), (4, .int v4), (5, .int v5), (6, .int v6), (7, .int (v7 + (1 : Int32)))] [] M1 Q else (if v3 = ((-9) : Int32) then (if v3 = ((-9) : Int32) then Wn (d + 1) i_MD_lives 44 [(0, .ref v0), (1, .int v1), (2, .int (v2 + (1 : Int32))), (3, .int v7), (4, .int v6), (5, .int v5), (6, .int v6), (7, .int (v7 + (1 : Int32)))] [] M1 Q else Wn (d + 1) i_MD_lives 44 [(0, .ref v0), (1, .int v1), (2, .int (v2 + (1 : Int32))), (3, .int v3), (4, .int v6), (5, .int v5), (6, .int v6), (7, .int (v7 + (1 : Int32)))] [] M1 Q) else (if v3 = ((-9) : Int32) then Wn (d + 1) i_MD_lives 44 [(0, .ref v0), (1, .int v1), (2, .int (v2 + (1 : Int32))), (3, .int v7), (4, .int v4), (5, .int v5), (6, .int v6), (7, .int (v7 + (1 : Int32)))] [] M1 Q else Wn (d + 1) i_MD_lives 44 [(0, .ref v0), (1, .int v1), (2, .int (v2 + (1 : Int32))), (3, .int v3), (4, .int v4), (5, .int v5), (6, .int v6), (7, .int (v7 + (1 : Int32)))] [] M1 Q))))) else False) else Wn (d + 1) i_MD_lives 25 [(0, .ref v0), (1, .int v1), (2, .int v2), (3, .int v3), (4, .int v4), (5, .int v5), (6, .int (v6 + (1 : Int32)))] [] M Q) :=
  sy_iff 400 _ _ _ _ _ _ _
set_option maxRecDepth 100000 in
theorem E_MD_next (d : Nat) (t : Nat) (M : Mem) (Q : Int32 → Mem → Prop) : WI (d + 1) i_MD_next [.ref t] M Q ↔ (if mC M t = 7 then (WV d i_MD_layContract [.ref t] M (fun M1 => Wn (d + 1) i_MD_next 6 [(0, .ref t), (1, .int (0 : Int32))] [] M1 (QI Q))) else False) :=
  sy_iff 400 _ _ _ _ _ _ _
set_option maxRecDepth 100000 in
theorem H_MD_next_6 (d : Nat) (v0 : Nat) (v1 : Int32) (M : Mem) (Q : Option Value → Mem → Prop) : Wn (d + 1) i_MD_next 6 [(0, .ref v0), (1, .int v1)] [] M Q ↔ (if v1 < (6 : Int32) then (if mC M v0 = 7 then (if (mR M v0 19) = 999999 then False else (if mC M (mR M v0 19) = 10 ∧ inb v1 (mL M (mR M v0 19)) then Wn (d + 1) i_MD_next 6 [(0, .ref v0), (1, .int (v1 + (1 : Int32)))] [] (setI M (mR M v0 19) (Int32.toNatClampNeg v1) (0 : Int32)) Q else False)) else False) else Wn (d + 1) i_MD_next 29 [(0, .ref v0), (1, .int (1 : Int32)), (2, .int (1 : Int32))] [] M Q) :=
  sy_iff 400 _ _ _ _ _ _ _
set_option maxRecDepth 100000 in
theorem H_MD_next_29 (d : Nat) (v0 : Nat) (v1 : Int32) (v2 : Int32) (M : Mem) (Q : Option Value → Mem → Prop) : Wn (d + 1) i_MD_next 29 [(0, .ref v0), (1, .int v1), (2, .int v2)] [] M Q ↔ (if mC M v0 = 7 then (if (mI M v0 0) < v2 then Wn (d + 1) i_MD_next 105 [(0, .ref v0), (1, .int v1), (2, .int (0 : Int32)), (3, .int (1 : Int32))] [] M Q else Wn (d + 1) i_MD_next 44 [(0, .ref v0), (1, .int (v1 * (6 : Int32))), (2, .int v2), (3, .int (0 : Int32))] [] M Q) else False) :=
  sy_iff 400 _ _ _ _ _ _ _
set_option maxRecDepth 100000 in
theorem H_MD_next_44 (d : Nat) (v0 : Nat) (v1 : Int32) (v2 : Int32) (v3 : Int32) (M : Mem) (Q : Option Value → Mem → Prop) : Wn (d + 1) i_MD_next 44 [(0, .ref v0), (1, .int v1), (2, .int v2), (3, .int v3)] [] M Q ↔ (if v3 < v1 then (if mC M v0 = 7 then (WI d i_MD_isLife [.ref v0, .int v2, .int v3] M (fun x2 M1 => (if x2 = 0 then Wn (d + 1) i_MD_next 44 [(0, .ref v0), (1, .int v1), (2, .int v2), (3, .int (v3 + (1 : Int32)))] [] M1 Q else Wn (d + 1) i_MD_next 61 [(0, .ref v0), (1, .int v1), (2, .int v2), (3, .int v3), (4, .int (0 : Int32))] [] M1 Q))) else False) else Wn (d + 1) i_MD_next 29 [(0, .ref v0), (1, .int v1), (2, .int (v2 + (1 : Int32)))] [] M Q) :=
  sy_iff 400 _ _ _ _ _ _ _
set_option maxRecDepth 100000 in
theorem H_MD_next_61 (d : Nat) (v0 : Nat) (v1 : Int32) (v2 : Int32) (v3 : Int32) (v4 : Int32) (M : Mem) (Q : Option Value → Mem → Prop) : Wn (d + 1) i_MD_next 61 [(0, .ref v0), (1, .int v1), (2, .int v2), (3, .int v3), (4, .int v4)] [] M Q ↔ (if v4 < v2 then (if mC M v0 = 7 then (if (mR M v0 19) = 999999 then False else (if mC M v0 = 7 then (if (mR M v0 16) = 999999 then False else (if rdI (mC M (mR M v0 16)) ∧ inb v4 (mL M (mR M v0 16)) then (if rdI (mC M (mR M v0 19)) ∧ inb (mI M (mR M v0 16) (Int32.toNatClampNeg v4)) (mL M (mR M v0 19)) then (if mC M (mR M v0 19) = 10 ∧ inb (mI M (mR M v0 16) (Int32.toNatClampNeg v4)) (mL M (mR M v0 19)) then Wn (d + 1) i_MD_next 61 [(0, .ref v0), (1, .int v1), (2, .int v2), (3, .int v3), (4, .int (v4 + (1 : Int32)))] [] (setI M (mR M v0 19) (Int32.toNatClampNeg (mI M (mR M v0 16) (Int32.toNatClampNeg v4))) ((mI M (mR M v0 19) (Int32.toNatClampNeg (mI M (mR M v0 16) (Int32.toNatClampNeg v4)))) + (1 : Int32))) Q else False) else False) else False)) else False)) else False) else Wn (d + 1) i_MD_next 44 [(0, .ref v0), (1, .int v1), (2, .int v2), (3, .int (v3 + (1 : Int32)))] [] M Q) :=
  sy_iff 400 _ _ _ _ _ _ _
set_option maxRecDepth 100000 in
theorem H_MD_next_105 (d : Nat) (v0 : Nat) (v1 : Int32) (v2 : Int32) (v3 : Int32) (M : Mem) (Q : Option Value → Mem → Prop) : Wn (d + 1) i_MD_next 105 [(0, .ref v0), (1, .int v1), (2, .int v2), (3, .int v3)] [] M Q ↔ (if v3 < (6 : Int32) then (if mC M v0 = 7 then (if (mR M v0 19) = 999999 then False else (if rdI (mC M (mR M v0 19)) ∧ inb v3 (mL M (mR M v0 19)) then (if mC M v0 = 7 then (if (mR M v0 19) = 999999 then False else (if rdI (mC M (mR M v0 19)) ∧ inb v2 (mL M (mR M v0 19)) then (if (mI M (mR M v0 19) (Int32.toNatClampNeg v2)) < (mI M (mR M v0 19) (Int32.toNatClampNeg v3)) then Wn (d + 1) i_MD_next 105 [(0, .ref v0), (1, .int v1), (2, .int v3), (3, .int (v3 + (1 : Int32)))] [] M Q else Wn (d + 1) i_MD_next 105 [(0, .ref v0), (1, .int v1), (2, .int v2), (3, .int (v3 + (1 : Int32)))] [] M Q) else False)) else False) else False)) else False) else (if mC M v0 = 7 then (if (mR M v0 19) = 999999 then False else (if rdI (mC M (mR M v0 19)) ∧ inb v2 (mL M (mR M v0 19)) then (if (mI M (mR M v0 19) (Int32.toNatClampNeg v2)) = 0 then Q (some (.int ((-9) : Int32))) M else Q (some (.int v2)) M) else False)) else False)) :=
  sy_iff 400 _ _ _ _ _ _ _
set_option maxRecDepth 100000 in
theorem E_MD_porridge (d : Nat) (t : Nat) (p1 : Int32) (p2 : Int32) (p3 : Int32) (p4 : Int32) (M : Mem) (Q : Int32 → Mem → Prop) : WI (d + 1) i_MD_porridge [.ref t, .int p1, .int p2, .int p3, .int p4] M Q ↔ (WI d i_MD_in [.long (Int32.toInt64 p1), .long (0 : Int64), .long (10 : Int64)] M (fun x2 M1 => (if x2 = 0 then Q ((-1) : Int32) M1 else (WI d i_MD_in [.long (Int32.toInt64 p2), .long (0 : Int64), .long (6 : Int64)] M1 (fun x4 M3 => (if x4 = 0 then Q ((-1) : Int32) M3 else (WI d i_MD_in [.long (Int32.toInt64 p3), .long (0 : Int64), .long (6 : Int64)] M3 (fun x6 M5 => (if x6 = 0 then Q ((-1) : Int32) M5 else (WI d i_MD_isTwo [.int p4] M5 (fun x8 M7 => (if x8 = 0 then Q ((-1) : Int32) M7 else Wn (d + 1) i_MD_porridge 55 [(0, .ref t), (1, .int p1), (2, .int p2), (3, .int p3), (4, .int p4), (5, .long (0 : Int64)), (7, .long (1 : Int64)), (9, .int (0 : Int32))] [] M7 (QI Q))))))))))))) :=
  sy_iff 400 _ _ _ _ _ _ _
set_option maxRecDepth 100000 in
theorem H_MD_porridge_55 (d : Nat) (v0 : Nat) (v1 : Int32) (v2 : Int32) (v3 : Int32) (v4 : Int32) (v5 : Int64) (v7 : Int64) (v9 : Int32) (M : Mem) (Q : Option Value → Mem → Prop) : Wn (d + 1) i_MD_porridge 55 [(0, .ref v0), (1, .int v1), (2, .int v2), (3, .int v3), (4, .int v4), (5, .long v5), (7, .long v7), (9, .int v9)] [] M Q ↔ (if v9 < v2 then Wn (d + 1) i_MD_porridge 55 [(0, .ref v0), (1, .int v1), (2, .int v2), (3, .int v3), (4, .int v4), (5, .long v5), (7, .long (v7 * (10 : Int64))), (9, .int (v9 + (1 : Int32)))] [] M Q else Wn (d + 1) i_MD_porridge 78 [(0, .ref v0), (1, .int v1), (2, .int v2), (3, .int v3), (4, .int v4), (5, .long v5), (7, .long v7), (9, .int (0 : Int32))] [] M Q) :=
  sy_iff 400 _ _ _ _ _ _ _
set_option maxRecDepth 100000 in
theorem H_MD_porridge_78 (d : Nat) (v0 : Nat) (v1 : Int32) (v2 : Int32) (v3 : Int32) (v4 : Int32) (v5 : Int64) (v7 : Int64) (v9 : Int32) (M : Mem) (Q : Option Value → Mem → Prop) : Wn (d + 1) i_MD_porridge 78 [(0, .ref v0), (1, .int v1), (2, .int v2), (3, .int v3), (4, .int v4), (5, .long v5), (7, .long v7), (9, .int v9)] [] M Q ↔ (if v9 < ((1 : Int32) <<< (v2 &&& 31)) then (if mC M v0 = 7 then Wn (d + 1) i_MD_porridge 97 [(0, .ref v0), (1, .int v1), (2, .int v2), (3, .int v3), (4, .int v4), (5, .long v5), (7, .long v7), (9, .int v9), (10, .long (1 : Int64)), (12, .int (0 : Int32))] [] (setI M v0 10 (0 : Int32)) Q else False) else (WL d i_MD_least [.long v5, .long v7, .int v4] M (fun x2 M1 => Q (some (.int (Int64.toInt32 x2))) M1))) :=
  sy_iff 400 _ _ _ _ _ _ _
set_option maxRecDepth 100000 in
theorem H_MD_porridge_97 (d : Nat) (v0 : Nat) (v1 : Int32) (v2 : Int32) (v3 : Int32) (v4 : Int32) (v5 : Int64) (v7 : Int64) (v9 : Int32) (v10 : Int64) (v12 : Int32) (M : Mem) (Q : Option Value → Mem → Prop) : Wn (d + 1) i_MD_porridge 97 [(0, .ref v0), (1, .int v1), (2, .int v2), (3, .int v3), (4, .int v4), (5, .long v5), (7, .long v7), (9, .int v9), (10, .long v10), (12, .int v12)] [] M Q ↔ (if v12 < v2 then (if ((v9 >>> (v12 &&& 31)) &&& (1 : Int32)) = 0 then (if mC M v0 = 7 then (WV d i_MD_tie [.ref v0, .int ((v9 >>> (v12 &&& 31)) &&& (1 : Int32))] M (fun M1 => Wn (d + 1) i_MD_porridge 97 [(0, .ref v0), (1, .int v1), (2, .int v2), (3, .int v3), (4, .int v4), (5, .long v5), (7, .long v7), (9, .int v9), (10, .long (v10 * (Int32.toInt64 v1))), (12, .int (v12 + (1 : Int32)))] [] M1 Q)) else False) else (if mC M v0 = 7 then (WV d i_MD_tie [.ref v0, .int ((v9 >>> (v12 &&& 31)) &&& (1 : Int32))] M (fun M2 => Wn (d + 1) i_MD_porridge 97 [(0, .ref v0), (1, .int v1), (2, .int v2), (3, .int v3), (4, .int v4), (5, .long v5), (7, .long v7), (9, .int v9), (10, .long (v10 * (Int32.toInt64 ((10 : Int32) - v1)))), (12, .int (v12 + (1 : Int32)))] [] M2 Q)) else False)) else (if mC M v0 = 7 then (if (mI M v0 10) = v3 then Wn (d + 1) i_MD_porridge 78 [(0, .ref v0), (1, .int v1), (2, .int v2), (3, .int v3), (4, .int v4), (5, .long (v5 + v10)), (7, .long v7), (9, .int (v9 + (1 : Int32)))] [] M Q else Wn (d + 1) i_MD_porridge 78 [(0, .ref v0), (1, .int v1), (2, .int v2), (3, .int v3), (4, .int v4), (5, .long (v5 + (0 : Int64))), (7, .long v7), (9, .int (v9 + (1 : Int32)))] [] M Q) else False)) :=
  sy_iff 400 _ _ _ _ _ _ _
set_option maxRecDepth 100000 in
theorem E_MD_share (d : Nat) (t : Nat) (p1 : Int32) (p2 : Int32) (M : Mem) (Q : Int32 → Mem → Prop) : WI (d + 1) i_MD_share [.ref t, .int p1, .int p2] M Q ↔ (if mC M t = 7 then (WI d i_MD_isHerder [.ref t, .int p1] M (fun x2 M1 => (if x2 = 0 then Q ((-1) : Int32) M1 else (WI d i_MD_in [.long (Int32.toInt64 p2), .long (1 : Int64), .long (99 : Int64)] M1 (fun x4 M3 => (if x4 = 0 then Q ((-1) : Int32) M3 else (if mC M3 t = 7 then (WI d i_MD_namesThere [.ref t] M3 (fun x6 M5 => (if x6 = 0 then False else (if mC M5 t = 7 then (WI d i_MD_alikeOf [.ref t, .int p1] M5 (fun x8 M7 => (WI d i_MD_bits [.int x8] M7 (fun x10 M9 => (if x10 = 0 then False else Q ((p2 / x6) / x10) M9))))) else False)))) else False))))))) else False) :=
  sy_iff 400 _ _ _ _ _ _ _
set_option maxRecDepth 100000 in
theorem E_MD_rate (d : Nat) (t : Nat) (p1 : Int32) (p2 : Int32) (M : Mem) (Q : Int32 → Mem → Prop) : WI (d + 1) i_MD_rate [.ref t, .int p1, .int p2] M Q ↔ (WI d i_MD_in [.long (Int32.toInt64 p1), .long (0 : Int64), .long (5 : Int64)] M (fun x2 M1 => (if x2 = 0 then Q ((-1000000) : Int32) M1 else (if mC M1 t = 7 then (WI d i_MD_isHerder [.ref t, .int p2] M1 (fun x4 M3 => (if x4 = 0 then Q ((-1000000) : Int32) M3 else (if mC M3 t = 7 then (if (mR M3 t 1) = 999999 then False else (if rdI (mC M3 (mR M3 t 1)) ∧ inb ((13 : Int32) + p2) (mL M3 (mR M3 t 1)) then (if (mI M3 (mR M3 t 1) (Int32.toNatClampNeg ((13 : Int32) + p2))) = 0 then (if mC M3 t = 7 then (WI d i_MD_alikeOf [.ref t, .int p2] M3 (fun x6 M5 => (WI d i_MD_bits [.int x6] M5 (fun x8 M7 => (if mC M7 t = 7 then (if mC M7 t = 7 then (if Int32.toInt p1 = 1 then (if mC (setJ M7 t 8 ((mJ M7 t 8) + (1 : Int64))) t = 7 then (if mC (setJ M7 t 8 ((mJ M7 t 8) + (1 : Int64))) t = 7 then Q ((mI M3 (mR M3 t 1) (Int32.toNatClampNeg ((13 : Int32) + p2))) + (0 : Int32)) (setJ (setJ M7 t 8 ((mJ M7 t 8) + (1 : Int64))) t 8 ((mJ (setJ M7 t 8 ((mJ M7 t 8) + (1 : Int64))) t 8) + (10 : Int64))) else False) else False) else (if Int32.toInt p1 = 2 then (if mC (setJ M7 t 8 ((mJ M7 t 8) + (1 : Int64))) t = 7 then (if mC (setJ M7 t 8 ((mJ M7 t 8) + (1 : Int64))) t = 7 then Q ((mI M3 (mR M3 t 1) (Int32.toNatClampNeg ((13 : Int32) + p2))) - x8) (setJ (setJ M7 t 8 ((mJ M7 t 8) + (1 : Int64))) t 8 ((mJ (setJ M7 t 8 ((mJ M7 t 8) + (1 : Int64))) t 8) + (100 : Int64))) else False) else False) else (if Int32.toInt p1 = 3 then (if mC (setJ M7 t 8 ((mJ M7 t 8) + (1 : Int64))) t = 7 then (if mC (setJ M7 t 8 ((mJ M7 t 8) + (1 : Int64))) t = 7 then Q ((2 : Int32) * ((mI M3 (mR M3 t 1) (Int32.toNatClampNeg ((13 : Int32) + p2))) + (0 : Int32))) (setJ (setJ M7 t 8 ((mJ M7 t 8) + (1 : Int64))) t 8 ((mJ (setJ M7 t 8 ((mJ M7 t 8) + (1 : Int64))) t 8) + (1010 : Int64))) else False) else False) else (if Int32.toInt p1 = 4 then (if mC (setJ M7 t 8 ((mJ M7 t 8) + (1 : Int64))) t = 7 then (if mC (setJ M7 t 8 ((mJ M7 t 8) + (1 : Int64))) t = 7 then Q (((mI M3 (mR M3 t 1) (Int32.toNatClampNeg ((13 : Int32) + p2))) - x8) + p2) (setJ (setJ M7 t 8 ((mJ M7 t 8) + (1 : Int64))) t 8 ((mJ (setJ M7 t 8 ((mJ M7 t 8) + (1 : Int64))) t 8) + (10100 : Int64))) else False) else False) else (if Int32.toInt p1 = 5 then (if mC (setJ M7 t 8 ((mJ M7 t 8) + (1 : Int64))) t = 7 then (if mC (setJ M7 t 8 ((mJ M7 t 8) + (1 : Int64))) t = 7 then (if mC (setJ (setJ M7 t 8 ((mJ M7 t 8) + (1 : Int64))) t 8 ((mJ (setJ M7 t 8 ((mJ M7 t 8) + (1 : Int64))) t 8) + (100000 : Int64))) t = 7 then (WI d i_MD_rootOf [.ref t, .int p2] (setJ (setJ M7 t 8 ((mJ M7 t 8) + (1 : Int64))) t 8 ((mJ (setJ M7 t 8 ((mJ M7 t 8) + (1 : Int64))) t 8) + (100000 : Int64))) (fun x10 M9 => Q ((mI M3 (mR M3 t 1) (Int32.toNatClampNeg ((13 : Int32) + p2))) + x10) M9)) else False) else False) else False) else Q (mI M3 (mR M3 t 1) (Int32.toNatClampNeg ((13 : Int32) + p2))) (setJ M7 t 8 ((mJ M7 t 8) + (1 : Int64)))))))) else False) else False))))) else False) else (if mC M3 t = 7 then (WI d i_MD_turnAt [.ref t, .int p2, .int ((mI M3 (mR M3 t 1) (Int32.toNatClampNeg ((13 : Int32) + p2))) - (1 : Int32))] M3 (fun x12 M11 => (if mC M11 t = 7 then (WI d i_MD_alikeOf [.ref t, .int p2] M11 (fun x14 M13 => (WI d i_MD_bits [.int x14] M13 (fun x16 M15 => (if mC M15 t = 7 then (if mC M15 t = 7 then (if Int32.toInt p1 = 1 then (if mC (setJ M15 t 8 ((mJ M15 t 8) + (1 : Int64))) t = 7 then (if mC (setJ M15 t 8 ((mJ M15 t 8) + (1 : Int64))) t = 7 then Q ((mI M3 (mR M3 t 1) (Int32.toNatClampNeg ((13 : Int32) + p2))) + x12) (setJ (setJ M15 t 8 ((mJ M15 t 8) + (1 : Int64))) t 8 ((mJ (setJ M15 t 8 ((mJ M15 t 8) + (1 : Int64))) t 8) + (10 : Int64))) else False) else False) else (if Int32.toInt p1 = 2 then (if mC (setJ M15 t 8 ((mJ M15 t 8) + (1 : Int64))) t = 7 then (if mC (setJ M15 t 8 ((mJ M15 t 8) + (1 : Int64))) t = 7 then Q ((mI M3 (mR M3 t 1) (Int32.toNatClampNeg ((13 : Int32) + p2))) - x16) (setJ (setJ M15 t 8 ((mJ M15 t 8) + (1 : Int64))) t 8 ((mJ (setJ M15 t 8 ((mJ M15 t 8) + (1 : Int64))) t 8) + (100 : Int64))) else False) else False) else (if Int32.toInt p1 = 3 then (if mC (setJ M15 t 8 ((mJ M15 t 8) + (1 : Int64))) t = 7 then (if mC (setJ M15 t 8 ((mJ M15 t 8) + (1 : Int64))) t = 7 then Q ((2 : Int32) * ((mI M3 (mR M3 t 1) (Int32.toNatClampNeg ((13 : Int32) + p2))) + x12)) (setJ (setJ M15 t 8 ((mJ M15 t 8) + (1 : Int64))) t 8 ((mJ (setJ M15 t 8 ((mJ M15 t 8) + (1 : Int64))) t 8) + (1010 : Int64))) else False) else False) else (if Int32.toInt p1 = 4 then (if mC (setJ M15 t 8 ((mJ M15 t 8) + (1 : Int64))) t = 7 then (if mC (setJ M15 t 8 ((mJ M15 t 8) + (1 : Int64))) t = 7 then Q (((mI M3 (mR M3 t 1) (Int32.toNatClampNeg ((13 : Int32) + p2))) - x16) + p2) (setJ (setJ M15 t 8 ((mJ M15 t 8) + (1 : Int64))) t 8 ((mJ (setJ M15 t 8 ((mJ M15 t 8) + (1 : Int64))) t 8) + (10100 : Int64))) else False) else False) else (if Int32.toInt p1 = 5 then (if mC (setJ M15 t 8 ((mJ M15 t 8) + (1 : Int64))) t = 7 then (if mC (setJ M15 t 8 ((mJ M15 t 8) + (1 : Int64))) t = 7 then (if mC (setJ (setJ M15 t 8 ((mJ M15 t 8) + (1 : Int64))) t 8 ((mJ (setJ M15 t 8 ((mJ M15 t 8) + (1 : Int64))) t 8) + (100000 : Int64))) t = 7 then (WI d i_MD_rootOf [.ref t, .int p2] (setJ (setJ M15 t 8 ((mJ M15 t 8) + (1 : Int64))) t 8 ((mJ (setJ M15 t 8 ((mJ M15 t 8) + (1 : Int64))) t 8) + (100000 : Int64))) (fun x18 M17 => Q ((mI M3 (mR M3 t 1) (Int32.toNatClampNeg ((13 : Int32) + p2))) + x18) M17)) else False) else False) else False) else Q (mI M3 (mR M3 t 1) (Int32.toNatClampNeg ((13 : Int32) + p2))) (setJ M15 t 8 ((mJ M15 t 8) + (1 : Int64)))))))) else False) else False))))) else False))) else False)) else False)) else False)))) else False)))) :=
  sy_iff 400 _ _ _ _ _ _ _
set_option maxRecDepth 100000 in
theorem E_MD_keep (d : Nat) (t : Nat) (p1 : Int32) (M : Mem) (Q : Int32 → Mem → Prop) : WI (d + 1) i_MD_keep [.ref t, .int p1] M Q ↔ (WI d i_MD_isTwo [.int p1] M (fun x2 M1 => (if x2 = 0 then Q ((-1) : Int32) M1 else (if mC M1 t = 7 then (if (mR M1 t 1) = 999999 then False else (if mC M1 t = 7 then (if (mR M1 t 4) = 999999 then False else (WV d i_MD_copies [.ref (mR M1 t 1), .int (0 : Int32), .ref (mR M1 t 4), .int ((91 : Int32) * p1)] M1 (fun M3 => (if mC M3 t = 7 then (if (mR M3 t 5) = 999999 then False else (if mC M3 (mR M3 t 5) = 12 ∧ inb p1 (mL M3 (mR M3 t 5)) then (if mC (setI M3 (mR M3 t 5) (Int32.toNatClampNeg p1) (vp_nar .boolean (1 : Int32))) t = 7 then (WI d i_MD_turnsOfAll [.ref t] (setI M3 (mR M3 t 5) (Int32.toNatClampNeg p1) (vp_nar .boolean (1 : Int32))) (fun x5 M4 => Q x5 M4)) else False) else False)) else False)))) else False)) else False)))) :=
  sy_iff 400 _ _ _ _ _ _ _
set_option maxRecDepth 100000 in
theorem E_MD_back (d : Nat) (t : Nat) (p1 : Int32) (M : Mem) (Q : Int32 → Mem → Prop) : WI (d + 1) i_MD_back [.ref t, .int p1] M Q ↔ (WI d i_MD_isTwo [.int p1] M (fun x2 M1 => (if x2 = 0 then Q ((-1) : Int32) M1 else (if mC M1 t = 7 then (if (mR M1 t 5) = 999999 then False else (if rdB (mC M1 (mR M1 t 5)) ∧ inb p1 (mL M1 (mR M1 t 5)) then (if (mI M1 (mR M1 t 5) (Int32.toNatClampNeg p1)) = 0 then Q ((-2) : Int32) M1 else (if mC M1 t = 7 then (if (mR M1 t 4) = 999999 then False else (if mC M1 t = 7 then (if (mR M1 t 1) = 999999 then False else (WV d i_MD_copies [.ref (mR M1 t 4), .int ((91 : Int32) * p1), .ref (mR M1 t 1), .int (0 : Int32)] M1 (fun M3 => (if mC M3 t = 7 then (if mC (setI M3 t 3 (0 : Int32)) t = 7 then (WI d i_MD_turnsOfAll [.ref t] (setI M3 t 3 (0 : Int32)) (fun x5 M4 => Q x5 M4)) else False) else False)))) else False)) else False)) else False)) else False)))) :=
  sy_iff 400 _ _ _ _ _ _ _
set_option maxRecDepth 100000 in
theorem E_MD_count (d : Nat) (t : Nat) (p1 : Int32) (M : Mem) (Q : Int32 → Mem → Prop) : WI d i_MD_count [.ref t, .int p1] M Q ↔ (if p1 = 0 then (if mC M t = 7 then Q (mI M t 0) M else False) else (if p1 = (1 : Int32) then (if mC M t = 7 then Q (mI M t 7) M else False) else Q ((-1) : Int32) M)) :=
  sy_iff 400 _ _ _ _ _ _ _
set_option maxRecDepth 100000 in
theorem E_MD_trace (d : Nat) (t : Nat) (M : Mem) (Q : Int64 → Mem → Prop) : WL d i_MD_trace [.ref t] M Q ↔ (if mC M t = 7 then Q (mJ M t 8) M else False) :=
  sy_iff 400 _ _ _ _ _ _ _
end
section
set_option maxRecDepth 100000 in
theorem H_LAW_law_18 (d : Nat) (v0 : Nat) (v1 : Nat) (v2 : Nat) (v3 : Int32) (M : Mem) (Q : Option Value → Mem → Prop) : Wn (d + 1) i_LAW_law 18 [(0, .ref v0), (1, .ref v1), (2, .ref v2), (3, .int v3)] [] M Q ↔ (if isA (mC M v0) then (if ((nI (mL M v0)) - (5 : Int32)) < v3 then Q (some (.int (1 : Int32))) M else (if rdI (mC M v0) ∧ inb v3 (mL M v0) then (if Int32.toInt ((mI M v0 (Int32.toNatClampNeg v3)) &&& (31 : Int32)) = 0 then Wn (d + 1) i_LAW_law 172 [(0, .ref v0), (1, .ref v1), (2, .ref v2), (3, .int v3)] [] M Q else (if Int32.toInt ((mI M v0 (Int32.toNatClampNeg v3)) &&& (31 : Int32)) = 1 then Wn (d + 1) i_LAW_law 195 [(0, .ref v0), (1, .ref v1), (2, .ref v2), (3, .int v3)] [] M Q else (if Int32.toInt ((mI M v0 (Int32.toNatClampNeg v3)) &&& (31 : Int32)) = 2 then Wn (d + 1) i_LAW_law 208 [(0, .ref v0), (1, .ref v1), (2, .ref v2), (3, .int v3)] [] M Q else (if Int32.toInt ((mI M v0 (Int32.toNatClampNeg v3)) &&& (31 : Int32)) = 3 then Wn (d + 1) i_LAW_law 221 [(0, .ref v0), (1, .ref v1), (2, .ref v2), (3, .int v3)] [] M Q else (if Int32.toInt ((mI M v0 (Int32.toNatClampNeg v3)) &&& (31 : Int32)) = 4 then Wn (d + 1) i_LAW_law 254 [(0, .ref v0), (1, .ref v1), (2, .ref v2), (3, .int v3)] [] M Q else (if Int32.toInt ((mI M v0 (Int32.toNatClampNeg v3)) &&& (31 : Int32)) = 5 then Wn (d + 1) i_LAW_law 277 [(0, .ref v0), (1, .ref v1), (2, .ref v2), (3, .int v3)] [] M Q else (if Int32.toInt ((mI M v0 (Int32.toNatClampNeg v3)) &&& (31 : Int32)) = 6 then Wn (d + 1) i_LAW_law 300 [(0, .ref v0), (1, .ref v1), (2, .ref v2), (3, .int v3)] [] M Q else (if Int32.toInt ((mI M v0 (Int32.toNatClampNeg v3)) &&& (31 : Int32)) = 7 then Wn (d + 1) i_LAW_law 333 [(0, .ref v0), (1, .ref v1), (2, .ref v2), (3, .int v3)] [] M Q else (if Int32.toInt ((mI M v0 (Int32.toNatClampNeg v3)) &&& (31 : Int32)) = 8 then Wn (d + 1) i_LAW_law 356 [(0, .ref v0), (1, .ref v1), (2, .ref v2), (3, .int v3)] [] M Q else (if Int32.toInt ((mI M v0 (Int32.toNatClampNeg v3)) &&& (31 : Int32)) = 9 then Wn (d + 1) i_LAW_law 389 [(0, .ref v0), (1, .ref v1), (2, .ref v2), (3, .int v3)] [] M Q else (if Int32.toInt ((mI M v0 (Int32.toNatClampNeg v3)) &&& (31 : Int32)) = 10 then Wn (d + 1) i_LAW_law 412 [(0, .ref v0), (1, .ref v1), (2, .ref v2), (3, .int v3)] [] M Q else (if Int32.toInt ((mI M v0 (Int32.toNatClampNeg v3)) &&& (31 : Int32)) = 11 then Wn (d + 1) i_LAW_law 435 [(0, .ref v0), (1, .ref v1), (2, .ref v2), (3, .int v3)] [] M Q else (if Int32.toInt ((mI M v0 (Int32.toNatClampNeg v3)) &&& (31 : Int32)) = 12 then Wn (d + 1) i_LAW_law 448 [(0, .ref v0), (1, .ref v1), (2, .ref v2), (3, .int v3)] [] M Q else (if Int32.toInt ((mI M v0 (Int32.toNatClampNeg v3)) &&& (31 : Int32)) = 13 then Wn (d + 1) i_LAW_law 461 [(0, .ref v0), (1, .ref v1), (2, .ref v2), (3, .int v3)] [] M Q else (if Int32.toInt ((mI M v0 (Int32.toNatClampNeg v3)) &&& (31 : Int32)) = 14 then Wn (d + 1) i_LAW_law 484 [(0, .ref v0), (1, .ref v1), (2, .ref v2), (3, .int v3)] [] M Q else (if Int32.toInt ((mI M v0 (Int32.toNatClampNeg v3)) &&& (31 : Int32)) = 15 then Wn (d + 1) i_LAW_law 507 [(0, .ref v0), (1, .ref v1), (2, .ref v2), (3, .int v3)] [] M Q else (if Int32.toInt ((mI M v0 (Int32.toNatClampNeg v3)) &&& (31 : Int32)) = 16 then Wn (d + 1) i_LAW_law 540 [(0, .ref v0), (1, .ref v1), (2, .ref v2), (3, .int v3)] [] M Q else (if Int32.toInt ((mI M v0 (Int32.toNatClampNeg v3)) &&& (31 : Int32)) = 17 then Wn (d + 1) i_LAW_law 563 [(0, .ref v0), (1, .ref v1), (2, .ref v2), (3, .int v3)] [] M Q else (if Int32.toInt ((mI M v0 (Int32.toNatClampNeg v3)) &&& (31 : Int32)) = 18 then Wn (d + 1) i_LAW_law 586 [(0, .ref v0), (1, .ref v1), (2, .ref v2), (3, .int v3)] [] M Q else (if Int32.toInt ((mI M v0 (Int32.toNatClampNeg v3)) &&& (31 : Int32)) = 19 then Wn (d + 1) i_LAW_law 640 [(0, .ref v0), (1, .ref v1), (2, .ref v2), (3, .int v3)] [] M Q else (if Int32.toInt ((mI M v0 (Int32.toNatClampNeg v3)) &&& (31 : Int32)) = 20 then Wn (d + 1) i_LAW_law 673 [(0, .ref v0), (1, .ref v1), (2, .ref v2), (3, .int v3)] [] M Q else (if Int32.toInt ((mI M v0 (Int32.toNatClampNeg v3)) &&& (31 : Int32)) = 21 then Wn (d + 1) i_LAW_law 716 [(0, .ref v0), (1, .ref v1), (2, .ref v2), (3, .int v3)] [] M Q else (if Int32.toInt ((mI M v0 (Int32.toNatClampNeg v3)) &&& (31 : Int32)) = 22 then Wn (d + 1) i_LAW_law 739 [(0, .ref v0), (1, .ref v1), (2, .ref v2), (3, .int v3)] [] M Q else (if Int32.toInt ((mI M v0 (Int32.toNatClampNeg v3)) &&& (31 : Int32)) = 23 then Wn (d + 1) i_LAW_law 762 [(0, .ref v0), (1, .ref v1), (2, .ref v2), (3, .int v3)] [] M Q else (if Int32.toInt ((mI M v0 (Int32.toNatClampNeg v3)) &&& (31 : Int32)) = 24 then Wn (d + 1) i_LAW_law 775 [(0, .ref v0), (1, .ref v1), (2, .ref v2), (3, .int v3)] [] M Q else (if Int32.toInt ((mI M v0 (Int32.toNatClampNeg v3)) &&& (31 : Int32)) = 25 then Wn (d + 1) i_LAW_law 828 [(0, .ref v0), (1, .ref v1), (2, .ref v2), (3, .int v3)] [] M Q else (if Int32.toInt ((mI M v0 (Int32.toNatClampNeg v3)) &&& (31 : Int32)) = 26 then Wn (d + 1) i_LAW_law 861 [(0, .ref v0), (1, .ref v1), (2, .ref v2), (3, .int v3)] [] M Q else (if Int32.toInt ((mI M v0 (Int32.toNatClampNeg v3)) &&& (31 : Int32)) = 27 then Wn (d + 1) i_LAW_law 894 [(0, .ref v0), (1, .ref v1), (2, .ref v2), (3, .int v3)] [] M Q else (if Int32.toInt ((mI M v0 (Int32.toNatClampNeg v3)) &&& (31 : Int32)) = 28 then Wn (d + 1) i_LAW_law 917 [(0, .ref v0), (1, .ref v1), (2, .ref v2), (3, .int v3)] [] M Q else (if Int32.toInt ((mI M v0 (Int32.toNatClampNeg v3)) &&& (31 : Int32)) = 29 then Wn (d + 1) i_LAW_law 940 [(0, .ref v0), (1, .ref v1), (2, .ref v2), (3, .int v3)] [] M Q else (if Int32.toInt ((mI M v0 (Int32.toNatClampNeg v3)) &&& (31 : Int32)) = 30 then Wn (d + 1) i_LAW_law 963 [(0, .ref v0), (1, .ref v1), (2, .ref v2), (3, .int v3)] [] M Q else Wn (d + 1) i_LAW_law 977 [(0, .ref v0), (1, .ref v1), (2, .ref v2), (3, .int v3)] [] M Q))))))))))))))))))))))))))))))) else False)) else False) :=
  sy_iff 12 _ _ _ _ _ _ _
set_option maxRecDepth 100000 in
theorem C_LAW_law_977 (d : Nat) (v0 : Nat) (v1 : Nat) (v2 : Nat) (v3 : Int32) (M : Mem) (Q : Option Value → Mem → Prop) : Wn (d + 1) i_LAW_law 977 [(0, .ref v0), (1, .ref v1), (2, .ref v2), (3, .int v3)] [] M Q ↔ Wn (d + 1) i_LAW_law 18 [(0, .ref v0), (1, .ref v1), (2, .ref v2), (3, .int (v3 + (5 : Int32)))] [] M Q :=
  sy_iff 60 _ _ _ _ _ _ _
set_option maxRecDepth 100000 in
theorem C_LAW_law_172 (d : Nat) (v0 : Nat) (v1 : Nat) (v2 : Nat) (v3 : Int32) (M : Mem) (Q : Option Value → Mem → Prop) : Wn (d + 1) i_LAW_law 172 [(0, .ref v0), (1, .ref v1), (2, .ref v2), (3, .int v3)] [] M Q ↔ (if rdI (mC M v0) ∧ inb (v3 + (1 : Int32)) (mL M v0) then (if mC M v1 = 6 then (WI d i_KN_type [.ref v1, .int (mI M v0 (Int32.toNatClampNeg (v3 + (1 : Int32))))] M (fun x2 M1 => (if rdI (mC M1 v0) ∧ inb (v3 + (1 : Int32)) (mL M1 v0) then (if mC M1 v2 = 7 then (WI d i_MD_type [.ref v2, .int (mI M1 v0 (Int32.toNatClampNeg (v3 + (1 : Int32))))] M1 (fun x4 M3 => (if x2 = x4 then Wn (d + 1) i_LAW_law 18 [(0, .ref v0), (1, .ref v1), (2, .ref v2), (3, .int (v3 + (5 : Int32)))] [] M3 Q else Q (some (.int (0 : Int32))) M3))) else False) else False))) else False) else False) :=
  sy_iff 60 _ _ _ _ _ _ _
set_option maxRecDepth 100000 in
theorem C_LAW_law_195 (d : Nat) (v0 : Nat) (v1 : Nat) (v2 : Nat) (v3 : Int32) (M : Mem) (Q : Option Value → Mem → Prop) : Wn (d + 1) i_LAW_law 195 [(0, .ref v0), (1, .ref v1), (2, .ref v2), (3, .int v3)] [] M Q ↔ (if mC M v1 = 6 then (WI d i_KN_clear [.ref v1] M (fun x2 M1 => (if mC M1 v2 = 7 then (WI d i_MD_clear [.ref v2] M1 (fun x4 M3 => (if x2 = x4 then Wn (d + 1) i_LAW_law 18 [(0, .ref v0), (1, .ref v1), (2, .ref v2), (3, .int (v3 + (5 : Int32)))] [] M3 Q else Q (some (.int (0 : Int32))) M3))) else False))) else False) :=
  sy_iff 60 _ _ _ _ _ _ _
set_option maxRecDepth 100000 in
theorem C_LAW_law_208 (d : Nat) (v0 : Nat) (v1 : Nat) (v2 : Nat) (v3 : Int32) (M : Mem) (Q : Option Value → Mem → Prop) : Wn (d + 1) i_LAW_law 208 [(0, .ref v0), (1, .ref v1), (2, .ref v2), (3, .int v3)] [] M Q ↔ (if mC M v1 = 6 then (WI d i_KN_camp [.ref v1] M (fun x2 M1 => (if mC M1 v2 = 7 then (WI d i_MD_camp [.ref v2] M1 (fun x4 M3 => (if x2 = x4 then Wn (d + 1) i_LAW_law 18 [(0, .ref v0), (1, .ref v1), (2, .ref v2), (3, .int (v3 + (5 : Int32)))] [] M3 Q else Q (some (.int (0 : Int32))) M3))) else False))) else False) :=
  sy_iff 60 _ _ _ _ _ _ _
set_option maxRecDepth 100000 in
theorem C_LAW_law_221 (d : Nat) (v0 : Nat) (v1 : Nat) (v2 : Nat) (v3 : Int32) (M : Mem) (Q : Option Value → Mem → Prop) : Wn (d + 1) i_LAW_law 221 [(0, .ref v0), (1, .ref v1), (2, .ref v2), (3, .int v3)] [] M Q ↔ (if rdI (mC M v0) ∧ inb (v3 + (1 : Int32)) (mL M v0) then (if rdI (mC M v0) ∧ inb (v3 + (2 : Int32)) (mL M v0) then (if mC M v1 = 6 then (WI d i_KN_name [.ref v1, .int (mI M v0 (Int32.toNatClampNeg (v3 + (1 : Int32)))), .int (mI M v0 (Int32.toNatClampNeg (v3 + (2 : Int32))))] M (fun x2 M1 => (if rdI (mC M1 v0) ∧ inb (v3 + (1 : Int32)) (mL M1 v0) then (if rdI (mC M1 v0) ∧ inb (v3 + (2 : Int32)) (mL M1 v0) then (if mC M1 v2 = 7 then (WI d i_MD_name [.ref v2, .int (mI M1 v0 (Int32.toNatClampNeg (v3 + (1 : Int32)))), .int (mI M1 v0 (Int32.toNatClampNeg (v3 + (2 : Int32))))] M1 (fun x4 M3 => (if x2 = x4 then Wn (d + 1) i_LAW_law 18 [(0, .ref v0), (1, .ref v1), (2, .ref v2), (3, .int (v3 + (5 : Int32)))] [] M3 Q else Q (some (.int (0 : Int32))) M3))) else False) else False) else False))) else False) else False) else False) :=
  sy_iff 60 _ _ _ _ _ _ _
set_option maxRecDepth 100000 in
theorem C_LAW_law_254 (d : Nat) (v0 : Nat) (v1 : Nat) (v2 : Nat) (v3 : Int32) (M : Mem) (Q : Option Value → Mem → Prop) : Wn (d + 1) i_LAW_law 254 [(0, .ref v0), (1, .ref v1), (2, .ref v2), (3, .int v3)] [] M Q ↔ (if rdI (mC M v0) ∧ inb (v3 + (1 : Int32)) (mL M v0) then (if mC M v1 = 6 then (WI d i_KN_contract [.ref v1, .int (mI M v0 (Int32.toNatClampNeg (v3 + (1 : Int32))))] M (fun x2 M1 => (if rdI (mC M1 v0) ∧ inb (v3 + (1 : Int32)) (mL M1 v0) then (if mC M1 v2 = 7 then (WI d i_MD_contract [.ref v2, .int (mI M1 v0 (Int32.toNatClampNeg (v3 + (1 : Int32))))] M1 (fun x4 M3 => (if x2 = x4 then Wn (d + 1) i_LAW_law 18 [(0, .ref v0), (1, .ref v1), (2, .ref v2), (3, .int (v3 + (5 : Int32)))] [] M3 Q else Q (some (.int (0 : Int32))) M3))) else False) else False))) else False) else False) :=
  sy_iff 60 _ _ _ _ _ _ _
set_option maxRecDepth 100000 in
theorem C_LAW_law_277 (d : Nat) (v0 : Nat) (v1 : Nat) (v2 : Nat) (v3 : Int32) (M : Mem) (Q : Option Value → Mem → Prop) : Wn (d + 1) i_LAW_law 277 [(0, .ref v0), (1, .ref v1), (2, .ref v2), (3, .int v3)] [] M Q ↔ (if rdI (mC M v0) ∧ inb (v3 + (1 : Int32)) (mL M v0) then (if mC M v1 = 6 then (WI d i_KN_now [.ref v1, .int (mI M v0 (Int32.toNatClampNeg (v3 + (1 : Int32))))] M (fun x2 M1 => (if rdI (mC M1 v0) ∧ inb (v3 + (1 : Int32)) (mL M1 v0) then (if mC M1 v2 = 7 then (WI d i_MD_now [.ref v2, .int (mI M1 v0 (Int32.toNatClampNeg (v3 + (1 : Int32))))] M1 (fun x4 M3 => (if x2 = x4 then Wn (d + 1) i_LAW_law 18 [(0, .ref v0), (1, .ref v1), (2, .ref v2), (3, .int (v3 + (5 : Int32)))] [] M3 Q else Q (some (.int (0 : Int32))) M3))) else False) else False))) else False) else False) :=
  sy_iff 60 _ _ _ _ _ _ _
set_option maxRecDepth 100000 in
theorem C_LAW_law_300 (d : Nat) (v0 : Nat) (v1 : Nat) (v2 : Nat) (v3 : Int32) (M : Mem) (Q : Option Value → Mem → Prop) : Wn (d + 1) i_LAW_law 300 [(0, .ref v0), (1, .ref v1), (2, .ref v2), (3, .int v3)] [] M Q ↔ (if rdI (mC M v0) ∧ inb (v3 + (1 : Int32)) (mL M v0) then (if rdI (mC M v0) ∧ inb (v3 + (2 : Int32)) (mL M v0) then (if mC M v1 = 6 then (WI d i_KN_ties [.ref v1, .int (mI M v0 (Int32.toNatClampNeg (v3 + (1 : Int32)))), .int (mI M v0 (Int32.toNatClampNeg (v3 + (2 : Int32))))] M (fun x2 M1 => (if rdI (mC M1 v0) ∧ inb (v3 + (1 : Int32)) (mL M1 v0) then (if rdI (mC M1 v0) ∧ inb (v3 + (2 : Int32)) (mL M1 v0) then (if mC M1 v2 = 7 then (WI d i_MD_ties [.ref v2, .int (mI M1 v0 (Int32.toNatClampNeg (v3 + (1 : Int32)))), .int (mI M1 v0 (Int32.toNatClampNeg (v3 + (2 : Int32))))] M1 (fun x4 M3 => (if x2 = x4 then Wn (d + 1) i_LAW_law 18 [(0, .ref v0), (1, .ref v1), (2, .ref v2), (3, .int (v3 + (5 : Int32)))] [] M3 Q else Q (some (.int (0 : Int32))) M3))) else False) else False) else False))) else False) else False) else False) :=
  sy_iff 60 _ _ _ _ _ _ _
set_option maxRecDepth 100000 in
theorem C_LAW_law_333 (d : Nat) (v0 : Nat) (v1 : Nat) (v2 : Nat) (v3 : Int32) (M : Mem) (Q : Option Value → Mem → Prop) : Wn (d + 1) i_LAW_law 333 [(0, .ref v0), (1, .ref v1), (2, .ref v2), (3, .int v3)] [] M Q ↔ (if rdI (mC M v0) ∧ inb (v3 + (1 : Int32)) (mL M v0) then (if mC M v1 = 6 then (WI d i_KN_loosens [.ref v1, .int (mI M v0 (Int32.toNatClampNeg (v3 + (1 : Int32))))] M (fun x2 M1 => (if rdI (mC M1 v0) ∧ inb (v3 + (1 : Int32)) (mL M1 v0) then (if mC M1 v2 = 7 then (WI d i_MD_loosens [.ref v2, .int (mI M1 v0 (Int32.toNatClampNeg (v3 + (1 : Int32))))] M1 (fun x4 M3 => (if x2 = x4 then Wn (d + 1) i_LAW_law 18 [(0, .ref v0), (1, .ref v1), (2, .ref v2), (3, .int (v3 + (5 : Int32)))] [] M3 Q else Q (some (.int (0 : Int32))) M3))) else False) else False))) else False) else False) :=
  sy_iff 60 _ _ _ _ _ _ _
set_option maxRecDepth 100000 in
theorem C_LAW_law_356 (d : Nat) (v0 : Nat) (v1 : Nat) (v2 : Nat) (v3 : Int32) (M : Mem) (Q : Option Value → Mem → Prop) : Wn (d + 1) i_LAW_law 356 [(0, .ref v0), (1, .ref v1), (2, .ref v2), (3, .int v3)] [] M Q ↔ (if rdI (mC M v0) ∧ inb (v3 + (1 : Int32)) (mL M v0) then (if rdI (mC M v0) ∧ inb (v3 + (2 : Int32)) (mL M v0) then (if mC M v1 = 6 then (WI d i_KN_bends [.ref v1, .int (mI M v0 (Int32.toNatClampNeg (v3 + (1 : Int32)))), .int (mI M v0 (Int32.toNatClampNeg (v3 + (2 : Int32))))] M (fun x2 M1 => (if rdI (mC M1 v0) ∧ inb (v3 + (1 : Int32)) (mL M1 v0) then (if rdI (mC M1 v0) ∧ inb (v3 + (2 : Int32)) (mL M1 v0) then (if mC M1 v2 = 7 then (WI d i_MD_bends [.ref v2, .int (mI M1 v0 (Int32.toNatClampNeg (v3 + (1 : Int32)))), .int (mI M1 v0 (Int32.toNatClampNeg (v3 + (2 : Int32))))] M1 (fun x4 M3 => (if x2 = x4 then Wn (d + 1) i_LAW_law 18 [(0, .ref v0), (1, .ref v1), (2, .ref v2), (3, .int (v3 + (5 : Int32)))] [] M3 Q else Q (some (.int (0 : Int32))) M3))) else False) else False) else False))) else False) else False) else False) :=
  sy_iff 60 _ _ _ _ _ _ _
set_option maxRecDepth 100000 in
theorem C_LAW_law_389 (d : Nat) (v0 : Nat) (v1 : Nat) (v2 : Nat) (v3 : Int32) (M : Mem) (Q : Option Value → Mem → Prop) : Wn (d + 1) i_LAW_law 389 [(0, .ref v0), (1, .ref v1), (2, .ref v2), (3, .int v3)] [] M Q ↔ (if rdI (mC M v0) ∧ inb (v3 + (1 : Int32)) (mL M v0) then (if mC M v1 = 6 then (WI d i_KN_unties [.ref v1, .int (mI M v0 (Int32.toNatClampNeg (v3 + (1 : Int32))))] M (fun x2 M1 => (if rdI (mC M1 v0) ∧ inb (v3 + (1 : Int32)) (mL M1 v0) then (if mC M1 v2 = 7 then (WI d i_MD_unties [.ref v2, .int (mI M1 v0 (Int32.toNatClampNeg (v3 + (1 : Int32))))] M1 (fun x4 M3 => (if x2 = x4 then Wn (d + 1) i_LAW_law 18 [(0, .ref v0), (1, .ref v1), (2, .ref v2), (3, .int (v3 + (5 : Int32)))] [] M3 Q else Q (some (.int (0 : Int32))) M3))) else False) else False))) else False) else False) :=
  sy_iff 60 _ _ _ _ _ _ _
set_option maxRecDepth 100000 in
theorem C_LAW_law_412 (d : Nat) (v0 : Nat) (v1 : Nat) (v2 : Nat) (v3 : Int32) (M : Mem) (Q : Option Value → Mem → Prop) : Wn (d + 1) i_LAW_law 412 [(0, .ref v0), (1, .ref v1), (2, .ref v2), (3, .int v3)] [] M Q ↔ (if rdI (mC M v0) ∧ inb (v3 + (1 : Int32)) (mL M v0) then (if mC M v1 = 6 then (WI d i_KN_adds [.ref v1, .int (mI M v0 (Int32.toNatClampNeg (v3 + (1 : Int32))))] M (fun x2 M1 => (if rdI (mC M1 v0) ∧ inb (v3 + (1 : Int32)) (mL M1 v0) then (if mC M1 v2 = 7 then (WI d i_MD_adds [.ref v2, .int (mI M1 v0 (Int32.toNatClampNeg (v3 + (1 : Int32))))] M1 (fun x4 M3 => (if x2 = x4 then Wn (d + 1) i_LAW_law 18 [(0, .ref v0), (1, .ref v1), (2, .ref v2), (3, .int (v3 + (5 : Int32)))] [] M3 Q else Q (some (.int (0 : Int32))) M3))) else False) else False))) else False) else False) :=
  sy_iff 60 _ _ _ _ _ _ _
set_option maxRecDepth 100000 in
theorem C_LAW_law_435 (d : Nat) (v0 : Nat) (v1 : Nat) (v2 : Nat) (v3 : Int32) (M : Mem) (Q : Option Value → Mem → Prop) : Wn (d + 1) i_LAW_law 435 [(0, .ref v0), (1, .ref v1), (2, .ref v2), (3, .int v3)] [] M Q ↔ (if mC M v1 = 6 then (WI d i_KN_tears [.ref v1] M (fun x2 M1 => (if mC M1 v2 = 7 then (WI d i_MD_tears [.ref v2] M1 (fun x4 M3 => (if x2 = x4 then Wn (d + 1) i_LAW_law 18 [(0, .ref v0), (1, .ref v1), (2, .ref v2), (3, .int (v3 + (5 : Int32)))] [] M3 Q else Q (some (.int (0 : Int32))) M3))) else False))) else False) :=
  sy_iff 60 _ _ _ _ _ _ _
set_option maxRecDepth 100000 in
theorem C_LAW_law_448 (d : Nat) (v0 : Nat) (v1 : Nat) (v2 : Nat) (v3 : Int32) (M : Mem) (Q : Option Value → Mem → Prop) : Wn (d + 1) i_LAW_law 448 [(0, .ref v0), (1, .ref v1), (2, .ref v2), (3, .int v3)] [] M Q ↔ (if mC M v1 = 6 then (WI d i_KN_undo [.ref v1] M (fun x2 M1 => (if mC M1 v2 = 7 then (WI d i_MD_undo [.ref v2] M1 (fun x4 M3 => (if x2 = x4 then Wn (d + 1) i_LAW_law 18 [(0, .ref v0), (1, .ref v1), (2, .ref v2), (3, .int (v3 + (5 : Int32)))] [] M3 Q else Q (some (.int (0 : Int32))) M3))) else False))) else False) :=
  sy_iff 60 _ _ _ _ _ _ _
set_option maxRecDepth 100000 in
theorem C_LAW_law_461 (d : Nat) (v0 : Nat) (v1 : Nat) (v2 : Nat) (v3 : Int32) (M : Mem) (Q : Option Value → Mem → Prop) : Wn (d + 1) i_LAW_law 461 [(0, .ref v0), (1, .ref v1), (2, .ref v2), (3, .int v3)] [] M Q ↔ (if rdI (mC M v0) ∧ inb (v3 + (1 : Int32)) (mL M v0) then (if mC M v1 = 6 then (WI d i_KN_alike [.ref v1, .int (mI M v0 (Int32.toNatClampNeg (v3 + (1 : Int32))))] M (fun x2 M1 => (if rdI (mC M1 v0) ∧ inb (v3 + (1 : Int32)) (mL M1 v0) then (if mC M1 v2 = 7 then (WI d i_MD_alike [.ref v2, .int (mI M1 v0 (Int32.toNatClampNeg (v3 + (1 : Int32))))] M1 (fun x4 M3 => (if x2 = x4 then Wn (d + 1) i_LAW_law 18 [(0, .ref v0), (1, .ref v1), (2, .ref v2), (3, .int (v3 + (5 : Int32)))] [] M3 Q else Q (some (.int (0 : Int32))) M3))) else False) else False))) else False) else False) :=
  sy_iff 60 _ _ _ _ _ _ _
set_option maxRecDepth 100000 in
theorem C_LAW_law_484 (d : Nat) (v0 : Nat) (v1 : Nat) (v2 : Nat) (v3 : Int32) (M : Mem) (Q : Option Value → Mem → Prop) : Wn (d + 1) i_LAW_law 484 [(0, .ref v0), (1, .ref v1), (2, .ref v2), (3, .int v3)] [] M Q ↔ (if rdI (mC M v0) ∧ inb (v3 + (1 : Int32)) (mL M v0) then (if mC M v1 = 6 then (WI d i_KN_ring [.ref v1, .int (mI M v0 (Int32.toNatClampNeg (v3 + (1 : Int32))))] M (fun x2 M1 => (if rdI (mC M1 v0) ∧ inb (v3 + (1 : Int32)) (mL M1 v0) then (if mC M1 v2 = 7 then (WI d i_MD_ring [.ref v2, .int (mI M1 v0 (Int32.toNatClampNeg (v3 + (1 : Int32))))] M1 (fun x4 M3 => (if x2 = x4 then Wn (d + 1) i_LAW_law 18 [(0, .ref v0), (1, .ref v1), (2, .ref v2), (3, .int (v3 + (5 : Int32)))] [] M3 Q else Q (some (.int (0 : Int32))) M3))) else False) else False))) else False) else False) :=
  sy_iff 60 _ _ _ _ _ _ _
set_option maxRecDepth 100000 in
theorem C_LAW_law_507 (d : Nat) (v0 : Nat) (v1 : Nat) (v2 : Nat) (v3 : Int32) (M : Mem) (Q : Option Value → Mem → Prop) : Wn (d + 1) i_LAW_law 507 [(0, .ref v0), (1, .ref v1), (2, .ref v2), (3, .int v3)] [] M Q ↔ (if rdI (mC M v0) ∧ inb (v3 + (1 : Int32)) (mL M v0) then (if rdI (mC M v0) ∧ inb (v3 + (2 : Int32)) (mL M v0) then (if mC M v1 = 6 then (WI d i_KN_way [.ref v1, .int (mI M v0 (Int32.toNatClampNeg (v3 + (1 : Int32)))), .int (mI M v0 (Int32.toNatClampNeg (v3 + (2 : Int32))))] M (fun x2 M1 => (if rdI (mC M1 v0) ∧ inb (v3 + (1 : Int32)) (mL M1 v0) then (if rdI (mC M1 v0) ∧ inb (v3 + (2 : Int32)) (mL M1 v0) then (if mC M1 v2 = 7 then (WI d i_MD_way [.ref v2, .int (mI M1 v0 (Int32.toNatClampNeg (v3 + (1 : Int32)))), .int (mI M1 v0 (Int32.toNatClampNeg (v3 + (2 : Int32))))] M1 (fun x4 M3 => (if x2 = x4 then Wn (d + 1) i_LAW_law 18 [(0, .ref v0), (1, .ref v1), (2, .ref v2), (3, .int (v3 + (5 : Int32)))] [] M3 Q else Q (some (.int (0 : Int32))) M3))) else False) else False) else False))) else False) else False) else False) :=
  sy_iff 60 _ _ _ _ _ _ _
set_option maxRecDepth 100000 in
theorem C_LAW_law_540 (d : Nat) (v0 : Nat) (v1 : Nat) (v2 : Nat) (v3 : Int32) (M : Mem) (Q : Option Value → Mem → Prop) : Wn (d + 1) i_LAW_law 540 [(0, .ref v0), (1, .ref v1), (2, .ref v2), (3, .int v3)] [] M Q ↔ (if rdI (mC M v0) ∧ inb (v3 + (1 : Int32)) (mL M v0) then (if mC M v1 = 6 then (WI d i_KN_root [.ref v1, .int (mI M v0 (Int32.toNatClampNeg (v3 + (1 : Int32))))] M (fun x2 M1 => (if rdI (mC M1 v0) ∧ inb (v3 + (1 : Int32)) (mL M1 v0) then (if mC M1 v2 = 7 then (WI d i_MD_root [.ref v2, .int (mI M1 v0 (Int32.toNatClampNeg (v3 + (1 : Int32))))] M1 (fun x4 M3 => (if x2 = x4 then Wn (d + 1) i_LAW_law 18 [(0, .ref v0), (1, .ref v1), (2, .ref v2), (3, .int (v3 + (5 : Int32)))] [] M3 Q else Q (some (.int (0 : Int32))) M3))) else False) else False))) else False) else False) :=
  sy_iff 60 _ _ _ _ _ _ _
set_option maxRecDepth 100000 in
theorem C_LAW_law_563 (d : Nat) (v0 : Nat) (v1 : Nat) (v2 : Nat) (v3 : Int32) (M : Mem) (Q : Option Value → Mem → Prop) : Wn (d + 1) i_LAW_law 563 [(0, .ref v0), (1, .ref v1), (2, .ref v2), (3, .int v3)] [] M Q ↔ (if rdI (mC M v0) ∧ inb (v3 + (1 : Int32)) (mL M v0) then (if mC M v1 = 6 then (WI d i_KN_order [.ref v1, .int (mI M v0 (Int32.toNatClampNeg (v3 + (1 : Int32))))] M (fun x2 M1 => (if rdI (mC M1 v0) ∧ inb (v3 + (1 : Int32)) (mL M1 v0) then (if mC M1 v2 = 7 then (WI d i_MD_order [.ref v2, .int (mI M1 v0 (Int32.toNatClampNeg (v3 + (1 : Int32))))] M1 (fun x4 M3 => (if x2 = x4 then Wn (d + 1) i_LAW_law 18 [(0, .ref v0), (1, .ref v1), (2, .ref v2), (3, .int (v3 + (5 : Int32)))] [] M3 Q else Q (some (.int (0 : Int32))) M3))) else False) else False))) else False) else False) :=
  sy_iff 60 _ _ _ _ _ _ _
set_option maxRecDepth 100000 in
theorem C_LAW_law_586 (d : Nat) (v0 : Nat) (v1 : Nat) (v2 : Nat) (v3 : Int32) (M : Mem) (Q : Option Value → Mem → Prop) : Wn (d + 1) i_LAW_law 586 [(0, .ref v0), (1, .ref v1), (2, .ref v2), (3, .int v3)] [] M Q ↔ (if rdI (mC M v0) ∧ inb (v3 + (1 : Int32)) (mL M v0) then (if rdI (mC M v0) ∧ inb (v3 + (2 : Int32)) (mL M v0) then (if rdI (mC M v0) ∧ inb (v3 + (3 : Int32)) (mL M v0) then (if rdI (mC M v0) ∧ inb (v3 + (4 : Int32)) (mL M v0) then (if mC M v1 = 6 then (WL d i_KN_cold [.ref v1, .int (mI M v0 (Int32.toNatClampNeg (v3 + (1 : Int32)))), .int (mI M v0 (Int32.toNatClampNeg (v3 + (2 : Int32)))), .int (mI M v0 (Int32.toNatClampNeg (v3 + (3 : Int32)))), .int (mI M v0 (Int32.toNatClampNeg (v3 + (4 : Int32))))] M (fun x2 M1 => (if rdI (mC M1 v0) ∧ inb (v3 + (1 : Int32)) (mL M1 v0) then (if rdI (mC M1 v0) ∧ inb (v3 + (2 : Int32)) (mL M1 v0) then (if rdI (mC M1 v0) ∧ inb (v3 + (3 : Int32)) (mL M1 v0) then (if rdI (mC M1 v0) ∧ inb (v3 + (4 : Int32)) (mL M1 v0) then (if mC M1 v2 = 7 then (WL d i_MD_cold [.ref v2, .int (mI M1 v0 (Int32.toNatClampNeg (v3 + (1 : Int32)))), .int (mI M1 v0 (Int32.toNatClampNeg (v3 + (2 : Int32)))), .int (mI M1 v0 (Int32.toNatClampNeg (v3 + (3 : Int32)))), .int (mI M1 v0 (Int32.toNatClampNeg (v3 + (4 : Int32))))] M1 (fun x4 M3 => (if (lg_cmp x2 x4) = 0 then Wn (d + 1) i_LAW_law 18 [(0, .ref v0), (1, .ref v1), (2, .ref v2), (3, .int (v3 + (5 : Int32)))] [] M3 Q else Q (some (.int (0 : Int32))) M3))) else False) else False) else False) else False) else False))) else False) else False) else False) else False) else False) :=
  sy_iff 60 _ _ _ _ _ _ _
set_option maxRecDepth 100000 in
theorem C_LAW_law_640 (d : Nat) (v0 : Nat) (v1 : Nat) (v2 : Nat) (v3 : Int32) (M : Mem) (Q : Option Value → Mem → Prop) : Wn (d + 1) i_LAW_law 640 [(0, .ref v0), (1, .ref v1), (2, .ref v2), (3, .int v3)] [] M Q ↔ (if rdI (mC M v0) ∧ inb (v3 + (1 : Int32)) (mL M v0) then (if rdI (mC M v0) ∧ inb (v3 + (2 : Int32)) (mL M v0) then (if mC M v1 = 6 then (WI d i_KN_mixed [.ref v1, .int (mI M v0 (Int32.toNatClampNeg (v3 + (1 : Int32)))), .int (mI M v0 (Int32.toNatClampNeg (v3 + (2 : Int32))))] M (fun x2 M1 => (if rdI (mC M1 v0) ∧ inb (v3 + (1 : Int32)) (mL M1 v0) then (if rdI (mC M1 v0) ∧ inb (v3 + (2 : Int32)) (mL M1 v0) then (if mC M1 v2 = 7 then (WI d i_MD_mixed [.ref v2, .int (mI M1 v0 (Int32.toNatClampNeg (v3 + (1 : Int32)))), .int (mI M1 v0 (Int32.toNatClampNeg (v3 + (2 : Int32))))] M1 (fun x4 M3 => (if x2 = x4 then Wn (d + 1) i_LAW_law 18 [(0, .ref v0), (1, .ref v1), (2, .ref v2), (3, .int (v3 + (5 : Int32)))] [] M3 Q else Q (some (.int (0 : Int32))) M3))) else False) else False) else False))) else False) else False) else False) :=
  sy_iff 60 _ _ _ _ _ _ _
set_option maxRecDepth 100000 in
theorem C_LAW_law_673 (d : Nat) (v0 : Nat) (v1 : Nat) (v2 : Nat) (v3 : Int32) (M : Mem) (Q : Option Value → Mem → Prop) : Wn (d + 1) i_LAW_law 673 [(0, .ref v0), (1, .ref v1), (2, .ref v2), (3, .int v3)] [] M Q ↔ (if rdI (mC M v0) ∧ inb (v3 + (1 : Int32)) (mL M v0) then (if rdI (mC M v0) ∧ inb (v3 + (2 : Int32)) (mL M v0) then (if rdI (mC M v0) ∧ inb (v3 + (3 : Int32)) (mL M v0) then (if mC M v1 = 6 then (WI d i_KN_newName [.ref v1, .int (mI M v0 (Int32.toNatClampNeg (v3 + (1 : Int32)))), .int (mI M v0 (Int32.toNatClampNeg (v3 + (2 : Int32)))), .int (mI M v0 (Int32.toNatClampNeg (v3 + (3 : Int32))))] M (fun x2 M1 => (if rdI (mC M1 v0) ∧ inb (v3 + (1 : Int32)) (mL M1 v0) then (if rdI (mC M1 v0) ∧ inb (v3 + (2 : Int32)) (mL M1 v0) then (if rdI (mC M1 v0) ∧ inb (v3 + (3 : Int32)) (mL M1 v0) then (if mC M1 v2 = 7 then (WI d i_MD_newName [.ref v2, .int (mI M1 v0 (Int32.toNatClampNeg (v3 + (1 : Int32)))), .int (mI M1 v0 (Int32.toNatClampNeg (v3 + (2 : Int32)))), .int (mI M1 v0 (Int32.toNatClampNeg (v3 + (3 : Int32))))] M1 (fun x4 M3 => (if x2 = x4 then Wn (d + 1) i_LAW_law 18 [(0, .ref v0), (1, .ref v1), (2, .ref v2), (3, .int (v3 + (5 : Int32)))] [] M3 Q else Q (some (.int (0 : Int32))) M3))) else False) else False) else False) else False))) else False) else False) else False) else False) :=
  sy_iff 60 _ _ _ _ _ _ _
set_option maxRecDepth 100000 in
theorem C_LAW_law_716 (d : Nat) (v0 : Nat) (v1 : Nat) (v2 : Nat) (v3 : Int32) (M : Mem) (Q : Option Value → Mem → Prop) : Wn (d + 1) i_LAW_law 716 [(0, .ref v0), (1, .ref v1), (2, .ref v2), (3, .int v3)] [] M Q ↔ (if rdI (mC M v0) ∧ inb (v3 + (1 : Int32)) (mL M v0) then (if mC M v1 = 6 then (WI d i_KN_pulls [.ref v1, .int (mI M v0 (Int32.toNatClampNeg (v3 + (1 : Int32))))] M (fun x2 M1 => (if rdI (mC M1 v0) ∧ inb (v3 + (1 : Int32)) (mL M1 v0) then (if mC M1 v2 = 7 then (WI d i_MD_pulls [.ref v2, .int (mI M1 v0 (Int32.toNatClampNeg (v3 + (1 : Int32))))] M1 (fun x4 M3 => (if x2 = x4 then Wn (d + 1) i_LAW_law 18 [(0, .ref v0), (1, .ref v1), (2, .ref v2), (3, .int (v3 + (5 : Int32)))] [] M3 Q else Q (some (.int (0 : Int32))) M3))) else False) else False))) else False) else False) :=
  sy_iff 60 _ _ _ _ _ _ _
set_option maxRecDepth 100000 in
theorem C_LAW_law_739 (d : Nat) (v0 : Nat) (v1 : Nat) (v2 : Nat) (v3 : Int32) (M : Mem) (Q : Option Value → Mem → Prop) : Wn (d + 1) i_LAW_law 739 [(0, .ref v0), (1, .ref v1), (2, .ref v2), (3, .int v3)] [] M Q ↔ (if rdI (mC M v0) ∧ inb (v3 + (1 : Int32)) (mL M v0) then (if mC M v1 = 6 then (WI d i_KN_lives [.ref v1, .int (mI M v0 (Int32.toNatClampNeg (v3 + (1 : Int32))))] M (fun x2 M1 => (if rdI (mC M1 v0) ∧ inb (v3 + (1 : Int32)) (mL M1 v0) then (if mC M1 v2 = 7 then (WI d i_MD_lives [.ref v2, .int (mI M1 v0 (Int32.toNatClampNeg (v3 + (1 : Int32))))] M1 (fun x4 M3 => (if x2 = x4 then Wn (d + 1) i_LAW_law 18 [(0, .ref v0), (1, .ref v1), (2, .ref v2), (3, .int (v3 + (5 : Int32)))] [] M3 Q else Q (some (.int (0 : Int32))) M3))) else False) else False))) else False) else False) :=
  sy_iff 60 _ _ _ _ _ _ _
set_option maxRecDepth 100000 in
theorem C_LAW_law_762 (d : Nat) (v0 : Nat) (v1 : Nat) (v2 : Nat) (v3 : Int32) (M : Mem) (Q : Option Value → Mem → Prop) : Wn (d + 1) i_LAW_law 762 [(0, .ref v0), (1, .ref v1), (2, .ref v2), (3, .int v3)] [] M Q ↔ (if mC M v1 = 6 then (WI d i_KN_next [.ref v1] M (fun x2 M1 => (if mC M1 v2 = 7 then (WI d i_MD_next [.ref v2] M1 (fun x4 M3 => (if x2 = x4 then Wn (d + 1) i_LAW_law 18 [(0, .ref v0), (1, .ref v1), (2, .ref v2), (3, .int (v3 + (5 : Int32)))] [] M3 Q else Q (some (.int (0 : Int32))) M3))) else False))) else False) :=
  sy_iff 60 _ _ _ _ _ _ _
set_option maxRecDepth 100000 in
theorem C_LAW_law_775 (d : Nat) (v0 : Nat) (v1 : Nat) (v2 : Nat) (v3 : Int32) (M : Mem) (Q : Option Value → Mem → Prop) : Wn (d + 1) i_LAW_law 775 [(0, .ref v0), (1, .ref v1), (2, .ref v2), (3, .int v3)] [] M Q ↔ (if rdI (mC M v0) ∧ inb (v3 + (1 : Int32)) (mL M v0) then (if rdI (mC M v0) ∧ inb (v3 + (2 : Int32)) (mL M v0) then (if rdI (mC M v0) ∧ inb (v3 + (3 : Int32)) (mL M v0) then (if rdI (mC M v0) ∧ inb (v3 + (4 : Int32)) (mL M v0) then (if mC M v1 = 6 then (WI d i_KN_porridge [.ref v1, .int (mI M v0 (Int32.toNatClampNeg (v3 + (1 : Int32)))), .int (mI M v0 (Int32.toNatClampNeg (v3 + (2 : Int32)))), .int (mI M v0 (Int32.toNatClampNeg (v3 + (3 : Int32)))), .int (mI M v0 (Int32.toNatClampNeg (v3 + (4 : Int32))))] M (fun x2 M1 => (if rdI (mC M1 v0) ∧ inb (v3 + (1 : Int32)) (mL M1 v0) then (if rdI (mC M1 v0) ∧ inb (v3 + (2 : Int32)) (mL M1 v0) then (if rdI (mC M1 v0) ∧ inb (v3 + (3 : Int32)) (mL M1 v0) then (if rdI (mC M1 v0) ∧ inb (v3 + (4 : Int32)) (mL M1 v0) then (if mC M1 v2 = 7 then (WI d i_MD_porridge [.ref v2, .int (mI M1 v0 (Int32.toNatClampNeg (v3 + (1 : Int32)))), .int (mI M1 v0 (Int32.toNatClampNeg (v3 + (2 : Int32)))), .int (mI M1 v0 (Int32.toNatClampNeg (v3 + (3 : Int32)))), .int (mI M1 v0 (Int32.toNatClampNeg (v3 + (4 : Int32))))] M1 (fun x4 M3 => (if x2 = x4 then Wn (d + 1) i_LAW_law 18 [(0, .ref v0), (1, .ref v1), (2, .ref v2), (3, .int (v3 + (5 : Int32)))] [] M3 Q else Q (some (.int (0 : Int32))) M3))) else False) else False) else False) else False) else False))) else False) else False) else False) else False) else False) :=
  sy_iff 60 _ _ _ _ _ _ _
set_option maxRecDepth 100000 in
theorem C_LAW_law_828 (d : Nat) (v0 : Nat) (v1 : Nat) (v2 : Nat) (v3 : Int32) (M : Mem) (Q : Option Value → Mem → Prop) : Wn (d + 1) i_LAW_law 828 [(0, .ref v0), (1, .ref v1), (2, .ref v2), (3, .int v3)] [] M Q ↔ (if rdI (mC M v0) ∧ inb (v3 + (1 : Int32)) (mL M v0) then (if rdI (mC M v0) ∧ inb (v3 + (2 : Int32)) (mL M v0) then (if mC M v1 = 6 then (WI d i_KN_share [.ref v1, .int (mI M v0 (Int32.toNatClampNeg (v3 + (1 : Int32)))), .int (mI M v0 (Int32.toNatClampNeg (v3 + (2 : Int32))))] M (fun x2 M1 => (if rdI (mC M1 v0) ∧ inb (v3 + (1 : Int32)) (mL M1 v0) then (if rdI (mC M1 v0) ∧ inb (v3 + (2 : Int32)) (mL M1 v0) then (if mC M1 v2 = 7 then (WI d i_MD_share [.ref v2, .int (mI M1 v0 (Int32.toNatClampNeg (v3 + (1 : Int32)))), .int (mI M1 v0 (Int32.toNatClampNeg (v3 + (2 : Int32))))] M1 (fun x4 M3 => (if x2 = x4 then Wn (d + 1) i_LAW_law 18 [(0, .ref v0), (1, .ref v1), (2, .ref v2), (3, .int (v3 + (5 : Int32)))] [] M3 Q else Q (some (.int (0 : Int32))) M3))) else False) else False) else False))) else False) else False) else False) :=
  sy_iff 60 _ _ _ _ _ _ _
set_option maxRecDepth 100000 in
theorem C_LAW_law_861 (d : Nat) (v0 : Nat) (v1 : Nat) (v2 : Nat) (v3 : Int32) (M : Mem) (Q : Option Value → Mem → Prop) : Wn (d + 1) i_LAW_law 861 [(0, .ref v0), (1, .ref v1), (2, .ref v2), (3, .int v3)] [] M Q ↔ (if rdI (mC M v0) ∧ inb (v3 + (1 : Int32)) (mL M v0) then (if rdI (mC M v0) ∧ inb (v3 + (2 : Int32)) (mL M v0) then (if mC M v1 = 6 then (WI d i_KN_rate [.ref v1, .int (mI M v0 (Int32.toNatClampNeg (v3 + (1 : Int32)))), .int (mI M v0 (Int32.toNatClampNeg (v3 + (2 : Int32))))] M (fun x2 M1 => (if rdI (mC M1 v0) ∧ inb (v3 + (1 : Int32)) (mL M1 v0) then (if rdI (mC M1 v0) ∧ inb (v3 + (2 : Int32)) (mL M1 v0) then (if mC M1 v2 = 7 then (WI d i_MD_rate [.ref v2, .int (mI M1 v0 (Int32.toNatClampNeg (v3 + (1 : Int32)))), .int (mI M1 v0 (Int32.toNatClampNeg (v3 + (2 : Int32))))] M1 (fun x4 M3 => (if x2 = x4 then Wn (d + 1) i_LAW_law 18 [(0, .ref v0), (1, .ref v1), (2, .ref v2), (3, .int (v3 + (5 : Int32)))] [] M3 Q else Q (some (.int (0 : Int32))) M3))) else False) else False) else False))) else False) else False) else False) :=
  sy_iff 60 _ _ _ _ _ _ _
set_option maxRecDepth 100000 in
theorem C_LAW_law_894 (d : Nat) (v0 : Nat) (v1 : Nat) (v2 : Nat) (v3 : Int32) (M : Mem) (Q : Option Value → Mem → Prop) : Wn (d + 1) i_LAW_law 894 [(0, .ref v0), (1, .ref v1), (2, .ref v2), (3, .int v3)] [] M Q ↔ (if rdI (mC M v0) ∧ inb (v3 + (1 : Int32)) (mL M v0) then (if mC M v1 = 6 then (WI d i_KN_keep [.ref v1, .int (mI M v0 (Int32.toNatClampNeg (v3 + (1 : Int32))))] M (fun x2 M1 => (if rdI (mC M1 v0) ∧ inb (v3 + (1 : Int32)) (mL M1 v0) then (if mC M1 v2 = 7 then (WI d i_MD_keep [.ref v2, .int (mI M1 v0 (Int32.toNatClampNeg (v3 + (1 : Int32))))] M1 (fun x4 M3 => (if x2 = x4 then Wn (d + 1) i_LAW_law 18 [(0, .ref v0), (1, .ref v1), (2, .ref v2), (3, .int (v3 + (5 : Int32)))] [] M3 Q else Q (some (.int (0 : Int32))) M3))) else False) else False))) else False) else False) :=
  sy_iff 60 _ _ _ _ _ _ _
set_option maxRecDepth 100000 in
theorem C_LAW_law_917 (d : Nat) (v0 : Nat) (v1 : Nat) (v2 : Nat) (v3 : Int32) (M : Mem) (Q : Option Value → Mem → Prop) : Wn (d + 1) i_LAW_law 917 [(0, .ref v0), (1, .ref v1), (2, .ref v2), (3, .int v3)] [] M Q ↔ (if rdI (mC M v0) ∧ inb (v3 + (1 : Int32)) (mL M v0) then (if mC M v1 = 6 then (WI d i_KN_back [.ref v1, .int (mI M v0 (Int32.toNatClampNeg (v3 + (1 : Int32))))] M (fun x2 M1 => (if rdI (mC M1 v0) ∧ inb (v3 + (1 : Int32)) (mL M1 v0) then (if mC M1 v2 = 7 then (WI d i_MD_back [.ref v2, .int (mI M1 v0 (Int32.toNatClampNeg (v3 + (1 : Int32))))] M1 (fun x4 M3 => (if x2 = x4 then Wn (d + 1) i_LAW_law 18 [(0, .ref v0), (1, .ref v1), (2, .ref v2), (3, .int (v3 + (5 : Int32)))] [] M3 Q else Q (some (.int (0 : Int32))) M3))) else False) else False))) else False) else False) :=
  sy_iff 60 _ _ _ _ _ _ _
set_option maxRecDepth 100000 in
theorem C_LAW_law_940 (d : Nat) (v0 : Nat) (v1 : Nat) (v2 : Nat) (v3 : Int32) (M : Mem) (Q : Option Value → Mem → Prop) : Wn (d + 1) i_LAW_law 940 [(0, .ref v0), (1, .ref v1), (2, .ref v2), (3, .int v3)] [] M Q ↔ (if rdI (mC M v0) ∧ inb (v3 + (1 : Int32)) (mL M v0) then (if mC M v1 = 6 then (WI d i_KN_count [.ref v1, .int (mI M v0 (Int32.toNatClampNeg (v3 + (1 : Int32))))] M (fun x2 M1 => (if rdI (mC M1 v0) ∧ inb (v3 + (1 : Int32)) (mL M1 v0) then (if mC M1 v2 = 7 then (WI d i_MD_count [.ref v2, .int (mI M1 v0 (Int32.toNatClampNeg (v3 + (1 : Int32))))] M1 (fun x4 M3 => (if x2 = x4 then Wn (d + 1) i_LAW_law 18 [(0, .ref v0), (1, .ref v1), (2, .ref v2), (3, .int (v3 + (5 : Int32)))] [] M3 Q else Q (some (.int (0 : Int32))) M3))) else False) else False))) else False) else False) :=
  sy_iff 60 _ _ _ _ _ _ _
set_option maxRecDepth 100000 in
theorem C_LAW_law_963 (d : Nat) (v0 : Nat) (v1 : Nat) (v2 : Nat) (v3 : Int32) (M : Mem) (Q : Option Value → Mem → Prop) : Wn (d + 1) i_LAW_law 963 [(0, .ref v0), (1, .ref v1), (2, .ref v2), (3, .int v3)] [] M Q ↔ (if mC M v1 = 6 then (WL d i_KN_trace [.ref v1] M (fun x2 M1 => (if mC M1 v2 = 7 then (WL d i_MD_trace [.ref v2] M1 (fun x4 M3 => (if (lg_cmp x2 x4) = 0 then Wn (d + 1) i_LAW_law 18 [(0, .ref v0), (1, .ref v1), (2, .ref v2), (3, .int (v3 + (5 : Int32)))] [] M3 Q else Q (some (.int (0 : Int32))) M3))) else False))) else False) :=
  sy_iff 60 _ _ _ _ _ _ _
end
section
def clL : List Nat := [6, 5, 11, 0, 14, 4, 10, 4, 10, 4, 10, 4, 10, 4, 10, 4, 10, 4, 10, 3, 15, 0, 14, 4, 10, 4, 10, 4, 10, 4, 10, 4, 10, 4, 10, 4, 10, 0, 14, 4, 10, 4, 10, 4, 10, 4, 10, 4, 10, 4, 10, 4, 10, 0, 14, 4, 10, 4, 10, 4, 10, 4, 10, 4, 10, 4, 10, 4, 10, 0, 14, 4, 10, 4, 10, 4, 10, 4, 10, 4, 10, 4, 10, 4, 10, 0, 14, 4, 10, 4, 10, 4, 10, 4, 10, 4, 10, 4, 10, 4, 10, 0, 14, 4, 10, 4, 10, 4, 10, 4, 10, 4, 10, 4, 10, 4, 10, 0, 14, 4, 10, 4, 10, 4, 10, 4, 10, 4, 10, 4, 10, 4, 10, 0, 14, 4, 10, 4, 10, 4, 10, 4, 10, 4, 10, 4, 10, 4, 10, 0, 14, 4, 10, 4, 10, 4, 10, 4, 10, 4, 10, 4, 10, 4, 10, 0, 14, 4, 10, 4, 10, 4, 10, 4, 10, 4, 10, 4, 10, 4, 10, 15, 12, 1, 4, 10, 4, 10, 10, 10, 10, 2, 4, 10, 4, 10, 4, 10, 4, 10, 4, 10, 16, 10, 10, 10, 10, 10, 10, 10, 10, 10, 10, 10, 10, 10, 0, 14, 4, 10, 4, 10, 4, 10, 4, 10, 4, 10, 4, 10, 4, 10, 0, 14, 4, 10, 4, 10, 4, 10, 4, 10, 4, 10, 4, 10, 4, 10, 7, 10, 10, 10, 12, 10, 10, 10, 10, 10, 10, 10, 10, 10]
def lnL : List Nat := [0, 0, 200, 0, 6, 0, 12, 0, 12, 0, 12, 0, 12, 0, 12, 0, 12, 0, 12, 0, 10, 0, 6, 0, 12, 0, 12, 0, 12, 0, 12, 0, 12, 0, 12, 0, 12, 0, 6, 0, 12, 0, 12, 0, 12, 0, 12, 0, 12, 0, 12, 0, 12, 0, 6, 0, 12, 0, 12, 0, 12, 0, 12, 0, 12, 0, 12, 0, 12, 0, 6, 0, 12, 0, 12, 0, 12, 0, 12, 0, 12, 0, 12, 0, 12, 0, 6, 0, 12, 0, 12, 0, 12, 0, 12, 0, 12, 0, 12, 0, 12, 0, 6, 0, 12, 0, 12, 0, 12, 0, 12, 0, 12, 0, 12, 0, 12, 0, 6, 0, 12, 0, 12, 0, 12, 0, 12, 0, 12, 0, 12, 0, 12, 0, 6, 0, 12, 0, 12, 0, 12, 0, 12, 0, 12, 0, 12, 0, 12, 0, 6, 0, 12, 0, 12, 0, 12, 0, 12, 0, 12, 0, 12, 0, 12, 0, 6, 0, 12, 0, 12, 0, 12, 0, 12, 0, 12, 0, 12, 0, 12, 2, 2, 0, 0, 12, 0, 72, 6, 6, 6, 0, 0, 4, 0, 4, 0, 24, 0, 24, 0, 12, 13, 13, 13, 13, 13, 13, 13, 13, 13, 13, 13, 13, 13, 13, 0, 6, 0, 12, 0, 12, 0, 12, 0, 12, 0, 12, 0, 12, 0, 12, 0, 6, 0, 12, 0, 12, 0, 12, 0, 12, 0, 12, 0, 12, 0, 12, 0, 91, 910, 182, 2, 200, 72, 91, 72, 4, 169, 6, 12, 6]
def rrL : List (List Nat) := [[1, 3, 19, 181, 182, 183, 191, 196, 198, 200, 202, 999999], [2, 999999], [], [4, 5, 999999], [7, 9, 11, 13, 15, 17], [6, 999999], [], [8, 999999], [], [10, 999999], [], [12, 999999], [], [14, 999999], [], [16, 999999], [], [18, 999999], [], [20, 999999, 999999], [21, 37, 53, 69, 85, 101, 117, 133, 149, 165], [22, 23, 999999], [25, 27, 29, 31, 33, 35], [24, 999999], [], [26, 999999], [], [28, 999999], [], [30, 999999], [], [32, 999999], [], [34, 999999], [], [36, 999999], [], [38, 39, 999999], [41, 43, 45, 47, 49, 51], [40, 999999], [], [42, 999999], [], [44, 999999], [], [46, 999999], [], [48, 999999], [], [50, 999999], [], [52, 999999], [], [54, 55, 999999], [57, 59, 61, 63, 65, 67], [56, 999999], [], [58, 999999], [], [60, 999999], [], [62, 999999], [], [64, 999999], [], [66, 999999], [], [68, 999999], [], [70, 71, 999999], [73, 75, 77, 79, 81, 83], [72, 999999], [], [74, 999999], [], [76, 999999], [], [78, 999999], [], [80, 999999], [], [82, 999999], [], [84, 999999], [], [86, 87, 999999], [89, 91, 93, 95, 97, 99], [88, 999999], [], [90, 999999], [], [92, 999999], [], [94, 999999], [], [96, 999999], [], [98, 999999], [], [100, 999999], [], [102, 103, 999999], [105, 107, 109, 111, 113, 115], [104, 999999], [], [106, 999999], [], [108, 999999], [], [110, 999999], [], [112, 999999], [], [114, 999999], [], [116, 999999], [], [118, 119, 999999], [121, 123, 125, 127, 129, 131], [120, 999999], [], [122, 999999], [], [124, 999999], [], [126, 999999], [], [128, 999999], [], [130, 999999], [], [132, 999999], [], [134, 135, 999999], [137, 139, 141, 143, 145, 147], [136, 999999], [], [138, 999999], [], [140, 999999], [], [142, 999999], [], [144, 999999], [], [146, 999999], [], [148, 999999], [], [150, 151, 999999], [153, 155, 157, 159, 161, 163], [152, 999999], [], [154, 999999], [], [156, 999999], [], [158, 999999], [], [160, 999999], [], [162, 999999], [], [164, 999999], [], [166, 167, 999999], [169, 171, 173, 175, 177, 179], [168, 999999], [], [170, 999999], [], [172, 999999], [], [174, 999999], [], [176, 999999], [], [178, 999999], [], [180, 999999], [], [216, 232], [], [184, 186, 188, 189, 190, 999999, 999999], [185, 999999], [], [187, 999999], [], [], [], [], [192, 194, 999999], [193, 999999], [], [195, 999999], [], [197, 999999], [], [199, 999999], [], [201, 999999], [], [203, 204, 205, 206, 207, 208, 209, 210, 211, 212, 213, 214, 215], [], [], [], [], [], [], [], [], [], [], [], [], [], [217, 218, 999999], [220, 222, 224, 226, 228, 230], [219, 999999], [], [221, 999999], [], [223, 999999], [], [225, 999999], [], [227, 999999], [], [229, 999999], [], [231, 999999], [], [233, 234, 999999], [236, 238, 240, 242, 244, 246], [235, 999999], [], [237, 999999], [], [239, 999999], [], [241, 999999], [], [243, 999999], [], [245, 999999], [], [247, 999999], [], [999999, 249, 250, 999999, 251, 252, 253, 999999, 999999, 254, 999999, 255, 999999, 256, 257, 258, 259, 260, 999999, 261], [], [], [], [], [], [], [], [], [], [], [], [], []]
def CL (a : Nat) : Nat := if a = 1000000 then 17 else if a = 1000001 then 20 else if a = 1000002 then 13 else clL.getD a 99
def LN (L a : Nat) : Nat := if a = 1000000 then L else if a = 1000002 then 6 else lnL.getD a 0
def RR (a k : Nat) : Nat := if a = 1000001 then (if k = 0 then 1000002 else 999999) else (rrL.getD a []).getD k 999999
/-- the memory behind the two constructors: only ints and longs change from there on -/
def mm (L : Nat) (I : Nat → Nat → Int32) (J : Nat → Nat → Int64) : Mem := (262, 3835, CL, LN L, I, J, RR)
def mem0 : Mem := (0, 0, (fun a => if a = 1000001 then 20 else if a = 1000002 then 13 else 99), (fun a => if a = 1000002 then 6 else 0), (fun a k => if a = 1000002 then byU.getD k 0 else 0), (fun _ _ => 0), (fun a k => if a = 1000001 ∧ k = 0 then 1000002 else 999999))
def stM (x : Option (Option Value × Mem)) : Mem := match x with
  | some (_, M) => M
  | none => mem0
def memA0 : Mem := fresh mem0 6 0 12
def memA : Mem := stM (run 20000 11 i_KN_init 0 (lv_args 0 [.ref 0]) [] memA0)
def memB0 : Mem := fresh memA 7 0 20
def memB : Mem := stM (run 20000 11 i_MD_init 0 (lv_args 0 [.ref 248]) [] memB0)
set_option maxRecDepth 1000000 in
theorem memA_s : (run 20000 11 i_KN_init 0 (lv_args 0 [.ref 0]) [] memA0).isSome = true := by decide +kernel
set_option maxRecDepth 1000000 in
theorem memB_s : (run 20000 11 i_MD_init 0 (lv_args 0 [.ref 248]) [] memB0).isSome = true := by decide +kernel
theorem stM_ok {n d mi : Nat} {m : MT} {lv : LV} {M : Mem} (hm : mt[mi]? = some m) (hr : m.2.2.2.2.1 = none) (h : (run n d mi 0 lv [] M).isSome = true) : run n d mi 0 lv [] M = some (none, stM (run n d mi 0 lv [] M)) := by
  cases hx : run n d mi 0 lv [] M with
  | none => rw [hx] at h; cases h
  | some q =>
    obtain ⟨v, M'⟩ := q
    have hs := run_sh _ _ _ _ _ _ _ _ _ _ hm hx
    rw [hr] at hs
    have hs : v = none := hs
    rw [hs]
    rfl
theorem memA_ok : run 20000 11 i_KN_init 0 (lv_args 0 [.ref 0]) [] memA0 = some (none, memA) := stM_ok (m := m_KN_init) rfl rfl memA_s
theorem memB_ok : run 20000 11 i_MD_init 0 (lv_args 0 [.ref 248]) [] memB0 = some (none, memB) := stM_ok (m := m_MD_init) rfl rfl memB_s
set_option maxRecDepth 1000000 in
theorem memA_N : mN memA = 248 := by decide +kernel
set_option maxRecDepth 1000000 in
theorem memB_N : mN memB = 262 ∧ mS memB = 3835 := by decide +kernel
def agC (i : Nat) : Bool := mC memB i == clL.getD i 99 && mL memB i == lnL.getD i 0
def agF (i : Nat) : Bool := (List.range (nf (clL.getD i 99))).all (fun k => mI memB i k == 0 && mJ memB i k == 0 && mR memB i k == (rrL.getD i []).getD k 999999)
def agA (i : Nat) : Bool := (List.range (lnL.getD i 0)).all (fun k => mI memB i k == 0 && mR memB i k == (rrL.getD i []).getD k 999999)
set_option maxRecDepth 1000000 in
theorem ag_C : (List.range 262).all agC = true := by decide +kernel
set_option maxRecDepth 1000000 in
theorem ag_F : (List.range 262).all agF = true := by decide +kernel
set_option maxRecDepth 1000000 in
theorem ag_A : (List.range 262).all agA = true := by decide +kernel
end
section
def R_law : String := "KnotNamesLaw"
def lw_P (b : Addr) (xs : List Int32) (args : Array Value) (s : State) : Prop := args = #[.ref b] ∧ s.IntsAt b xs ∧ xs.length ≤ 320 ∧ (Jvm.Cond.and given_1 narrow_1).before args s = true
def lw_Q (_ : Array Value) (s : State) (o : Outcome) (t : State) : Prop := o = .returned (some (.int 1)) ∧ Framed s o t [] 600000 7302250
def lw_Z (below : List Frame) (a : Array Value) (s : State) : State → Prop := fun t => ∃ o, t.status = .running ∧ Ended t below o ∧ lw_Q a s o t
/-- the law's own end, with 1 on the stack, nothing written that was there before, its room as the claim has it -/
theorem lw_ret {p : Program} {l : Launch} {e : Env} {s : State} {m : MethodId} {below : List Frame} {meth : Method} {c : Code} {b : Nat} (hx : p.tables.exec = Jvm.exec) (hb : c.code = code) (hr : meth.sig.returnType = ret) (hlocks : meth.locks = false) {pc : Nat} {H : Heap} {ls : Array Slot} (hdg : decode code pc = .ok (.ireturn, 1)) : W p l e room_1 s m #[Value.ref b] below meth c H [] 600000 7302250 (lw_Z below #[Value.ref b] s) (F0 m pc ls [.int 1]) := by
  intro T hT X
  obtain ⟨fs, hret, hrun, hended, hW, hframe⟩ := X.leave (v := some (.int 1)) (hlocks := hlocks) (fun h => by rw [hr] at h; cases h)
  have hmeth' : T.vm.method? m = some meth := X.method'
  refine ⟨T.setFrames fs, ?_, .returned (some (.int 1)), hrun, hended, rfl, ⟨_, rfl⟩, hW, hframe⟩
  jvm_step X.here [X.here.top, hx, hb, hdg, hmeth', hr, ret, narrow_b1]
  (try refine ⟨rfl, ?_⟩); (try refine ⟨rfl, ?_⟩)
  first | (intro acts; rw [hret _ acts rfl rfl rfl]) | rw [hret _ _ rfl rfl rfl]
  exact Steps.refl _
/-- what holds at the law's entry: the machine, the code, the tables' words (any of lw_tbl by 'hts w (by decide +kernel)'), the script of L ints xs at the cell b, what the Statement gives of the start (any of its parts by flat_of_before) -/
def lw_At (p : Program) (s : State) (m : MethodId) (meth : Method) (c : Code) (b L : Nat) (xs : Nat → Int32) : Prop :=
  p.tables.exec = Jvm.exec ∧ c.code = code ∧ meth.sig.returnType = ret ∧ c.maxLocals = 4 ∧ s.vm.findClass R_law = some m.cls ∧ (∀ w ∈ lw_tbl, w.before #[Value.ref b] s = true) ∧ va_X b L xs s s.heap ∧ b < s.heap.size ∧ meth.locks = false ∧ (Jvm.Cond.and given_1 narrow_1).before #[Value.ref b] s = true
section Disp
variable {w : WP} {p : Program} {l : Launch} {e : Env} {R : Room} {s : State} {m : MethodId} {args : Array Value} {below : List Frame} {meth : Method} {c : Code} {Q : State → Prop} {n0 s0 nT sT : Nat}
set_option maxHeartbeats 8000000 in
theorem disp_ok {d mi pc : Nat} {mm : MT} {lv : LV} {st : List Value} {M : Mem} {K : Nat → LV → List Value → Mem → Option (Option Value × Mem)} {C : Nat → List Value → List Value → Nat → Option (Option Value × Mem)} {res : Option Value × Mem} {il : Instr × Nat} (hm : mt[mi]? = some mm) (hil : asc mm.2.2.2.2.2.2.1 pc = some il)
    (cx : Cx w p R s m args meth c mm.2.2.1 mm.1 mm.2.2.2.1 n0 s0 nT sT mm.2.2.2.2.2.1) (hR1 : d ≤ R.frames) (hR2 : 64 * d ≤ R.locals)
    (KK : ∀ pc' lv' st' M9, K pc' lv' st' M9 = some res → (mN M9 ≤ nT ∧ mS M9 ≤ sT) ∧ Gd w p l e R s m args below meth c mm.2.2.2.1 n0 s0 Q pc' lv' st' M9)
    (CC : ∀ cm As rest pc', C cm As rest pc' = some res → ∃ m' d' r M1, d = d' + 1 ∧ mt[cm]? = some m' ∧ mN M ≤ mN M1 ∧ mS M ≤ mS M1 ∧ mN M1 ≤ nT ∧ mS M1 ≤ sT ∧ (m'.2.1.name ≠ "law" → (As.map fun v => v.category).sum ≤ m'.2.2.2.1 → Met l m'.2.1 [.code m'.2.1 m'.2.2.1 m'.2.2.2.1 m'.2.2.2.2.1] (Rm d' (mN M1 - mN M) (mS M1 - mS M)) (PcM w As M) (QcM w r M1) (mN M1 - mN M) (mS M1 - mS M) (Aw w)) ∧ Gd w p l e R s m args below meth c mm.2.2.2.1 n0 s0 Q pc' lv (r.toList ++ rest) M1)
    (h : stC none K C (fun _ => none) d mm.1 mm.2.2.2.1 mm.2.2.2.2.1 mm.2.2.2.2.2.1 pc lv st M il.1 = some res) : Gd w p l e R s m args below meth c mm.2.2.2.1 n0 s0 Q pc lv st M := by
  obtain ⟨kd, kl⟩ := mt_k mm (List.mem_of_getElem? hm)
  have hdec := kd _ (asc_mem hil)
  have hlen := kl _ (asc_mem hil)
  dsimp only at hdec
  have dg : ∀ k, lenI il.1 = some k → decode mm.2.2.1 pc = .ok (il.1, k) := by
    intro k hk
    unfold lOK at hlen
    dsimp only at hlen
    rw [hk] at hlen
    have : k = il.2 := by simpa using hlen
    rw [this]
    exact hdec
  unfold stC at h
  split at h
  · exact stA_ok cx dg KK h
  · exact stB_ok cx dg KK h
  · exact stJ_ok cx ⟨il.2, hdec, fun j hj => by have := dg j hj; rw [hdec] at this; cases this; rfl⟩ KK h
  · have hh := h
    unfold stH at hh
    split at hh
    · next n1 hi => rw [hi] at h dg; exact st_getfield cx (dg _ rfl) KK h
    · next n1 hi => rw [hi] at h dg; exact st_putfield cx (dg _ rfl) KK h
    · next n1 hi => exact st_arr cx dg (Or.inr (Or.inr (Or.inr (Or.inr (Or.inr ⟨_, hi⟩))))) KK h
    · next hi => exact st_arr cx dg (Or.inl hi) KK h
    · next hi => exact st_arr cx dg (Or.inr (Or.inl hi)) KK h
    · next hi => exact st_arr cx dg (Or.inr (Or.inr (Or.inl hi))) KK h
    · next hi => exact st_arr cx dg (Or.inr (Or.inr (Or.inr (Or.inl hi)))) KK h
    · next hi => exact st_arr cx dg (Or.inr (Or.inr (Or.inr (Or.inr (Or.inl hi))))) KK h
    · next hi => exact st_arw cx dg (Or.inl hi) KK h
    · next hi => exact st_arw cx dg (Or.inr (Or.inl hi)) KK h
    · next hi => exact st_arw cx dg (Or.inr (Or.inr (Or.inl hi))) KK h
    · next hi => exact st_arw cx dg (Or.inr (Or.inr (Or.inr hi))) KK h
    · next n1 hi => exact st_new cx dg (Or.inl ⟨_, hi⟩) KK h
    · next n1 hi => exact st_new cx dg (Or.inr (Or.inl ⟨_, hi⟩)) KK h
    · next n1 hi => exact st_new cx dg (Or.inr (Or.inr ⟨_, hi⟩)) KK h
    · next n1 n2 hi => rw [hi] at h dg; exact st_mna cx (dg _ rfl) KK h
    · cases hh
  · exact stV_ok cx dg hR1 hR2 KK CC h
  · exfalso
    rw [stT_nat (α := Option (Option Value × Mem)) none (fun _ _ _ _ => none) (fun _ _ _ _ => none) (fun _ => none)] at h
    unfold elS at h
    split at h <;> cases h
noncomputable def pick {α β : Type} (x y : α) (r : β) : Option β := @ite _ (x = y) (Classical.propDecidable _) (some r) none
theorem pick_s {α β : Type} {x y : α} {r z : β} (h : pick x y r = some z) : x = y := by
  unfold pick at h
  split at h
  · assumption
  · cases h
theorem pick_r {α β : Type} (x : α) (r : β) : pick x x r = some r := by
  unfold pick
  split
  · rfl
  · next h => exact absurd rfl h
theorem Gd_step {d mi pc : Nat} {mm : MT} {lv : LV} {st : List Value} {M : Mem} {pc' : Nat} {lv' : LV} {st' : List Value} {M' : Mem} (hm : mt[mi]? = some mm)
    (cx : Cx w p R s m args meth c mm.2.2.1 mm.1 mm.2.2.2.1 n0 s0 nT sT mm.2.2.2.2.2.1) (hR1 : d ≤ R.frames) (hR2 : 64 * d ≤ R.locals) (hs : sp mm d pc lv st M = some (.inl (pc', lv', st', M'))) (hb : mN M' ≤ nT ∧ mS M' ≤ sT) (hG : Gd w p l e R s m args below meth c mm.2.2.2.1 n0 s0 Q pc' lv' st' M') : Gd w p l e R s m args below meth c mm.2.2.2.1 n0 s0 Q pc lv st M := by
  have hs0 := hs
  unfold sp at hs
  split at hs
  · cases hs
  · next il hil =>
    refine disp_ok (K := fun a b c d => pick (a, b, c, d) (pc', lv', st', M') (none, M')) (C := fun _ _ _ _ => none) (res := (none, M')) hm hil cx hR1 hR2 (fun a b c d h => ?_) (fun _ _ _ _ h => by cases h) ?_
    · have hc := pick_s h
      cases hc
      exact ⟨hb, hG⟩
    · rw [stC_nat, hs]
      exact pick_r _ _
theorem Gd_call {n d d' mi pc : Nat} {mm : MT} {lv : LV} {st : List Value} {M : Mem} {cm : Nat} {As rest : List Value} {pc' : Nat} {r : Option Value} {M1 : Mem} (hwz : (wH w).size = wB w) (hm : mt[mi]? = some mm)
    (cx : Cx w p R s m args meth c mm.2.2.1 mm.1 mm.2.2.2.1 n0 s0 nT sT mm.2.2.2.2.2.1) (hR1 : d ≤ R.frames) (hR2 : 64 * d ≤ R.locals) (hs : sp mm d pc lv st M = some (.inr (.inl (cm, As, rest, pc')))) (hd : d = d' + 1) (hr : run n d' cm 0 (lv_args 0 As) [] M = some (r, M1)) (hb : mN M1 ≤ nT ∧ mS M1 ≤ sT) (hG : Gd w p l e R s m args below meth c mm.2.2.2.1 n0 s0 Q pc' lv (r.toList ++ rest) M1) : Gd w p l e R s m args below meth c mm.2.2.2.1 n0 s0 Q pc lv st M := by
  have hs0 := hs
  unfold sp at hs
  split at hs
  · cases hs
  · next il hil =>
    refine disp_ok (K := fun _ _ _ _ => none) (C := fun a b c d => pick (a, b, c, d) (cm, As, rest, pc') (none, M)) (res := (none, M)) hm hil cx hR1 hR2 (fun _ _ _ _ h => by cases h) (fun a b c d9 h => ?_) ?_
    · have hc := pick_s h
      cases hc
      obtain ⟨k, m', -, hm'⟩ := run_m hr
      have g1 := run_gr _ _ _ _ _ _ _ _ _ hr
      exact ⟨m', d', r, M1, hd, hm', g1.1, g1.2, hb.1, hb.2, fun hn hsu => met_ok (bok l hwz n) hwz hm' hn hr hsu, hG⟩
    · rw [stC_nat, hs]
      exact pick_r _ _
end Disp
def I0 (xs : Nat → Int32) : Nat → Nat → Int32 := fun a k => if a = 1000000 then xs k else if a = 1000002 then byU.getD k 0 else 0
def J0 : Nat → Nat → Int64 := fun _ _ => 0
theorem ag_at {P : Nat → Bool} {n i : Nat} (h : (List.range n).all P = true) (hi : i < n) : P i = true := List.all_eq_true.mp h i (List.mem_range.mpr hi)
theorem CL_lo {a : Nat} (h : a < 262) : CL a = clL.getD a 99 := by
  unfold CL
  rw [if_neg (by omega), if_neg (by omega), if_neg (by omega)]
set_option maxRecDepth 100000 in
theorem clL_hi {a : Nat} (h : 262 ≤ a) : clL.getD a 99 = 99 := by
  rw [List.getD_eq_getElem?_getD, List.getElem?_eq_none (by show clL.length ≤ a; exact Nat.le_trans (by decide +kernel) h)]
  rfl
set_option maxRecDepth 100000 in
theorem clL_new : ∀ i, i < 262 → ¬ (clL.getD i 99 = 99 ∨ clL.getD i 99 = 13 ∨ clL.getD i 99 = 17 ∨ clL.getD i 99 = 20) ∧ (clL.getD i 99 < 8 ∨ clL.getD i 99 = 10 ∨ clL.getD i 99 = 11 ∨ clL.getD i 99 = 12 ∨ clL.getD i 99 = 14 ∨ clL.getD i 99 = 15 ∨ clL.getD i 99 = 16) := by decide +kernel
theorem arrV_ext {cA : ClassId} {n : Nat} {f g : Nat → Value} (h : ∀ k, k < n → f k = g k) : arrV cA n f = arrV cA n g := by
  unfold arrV
  congr 2
  funext j
  exact h j.val j.isLt
set_option maxRecDepth 100000 in
set_option maxHeartbeats 4000000 in
theorem HR_mm {w : WP} {H : Heap} (hH : HR w memB H) : HR w (mm (wL w) (I0 (wX w)) J0) H := by
  obtain ⟨h1, h2, h3, h4, h5, h6, h7, h8, h9⟩ := hH
  have hN := memB_N.1
  rw [hN] at h1 h3 h4 h5 h6
  refine ⟨h1, h2, fun i hi => ?_, by show 262 ≤ 900000; omega, fun a ha => ?_, fun a ha => ?_, fun a ha => ?_, fun a ha => ?_, fun a ha => ?_⟩
  · have hi : i < 262 := hi
    have hC := ag_at ag_C hi
    have hF := ag_at ag_F hi
    have hA := ag_at ag_A hi
    unfold agC at hC
    simp only [Bool.and_eq_true, beq_iff_eq] at hC
    have hold := h3 i hi
    have e1 : mC (mm (wL w) (I0 (wX w)) J0) i = mC memB i := by rw [hC.1]; exact CL_lo hi
    have e2 : mL (mm (wL w) (I0 (wX w)) J0) i = mL memB i := by
      rw [hC.2]
      show LN (wL w) i = _
      unfold LN
      rw [if_neg (by omega), if_neg (by omega)]
    have eR : ∀ k, mR (mm (wL w) (I0 (wX w)) J0) i k = (rrL.getD i []).getD k 999999 := fun k => by
      show RR i k = _
      unfold RR
      rw [if_neg (by omega)]
    have eI : ∀ k, mI (mm (wL w) (I0 (wX w)) J0) i k = 0 := fun k => by
      show I0 (wX w) i k = _
      unfold I0
      rw [if_neg (by omega), if_neg (by omega)]
    have eJ : ∀ k, mJ (mm (wL w) (I0 (wX w)) J0) i k = 0 := fun k => rfl
    obtain ⟨n1, n2⟩ := clL_new i hi
    rw [← hC.1] at n2
    unfold agF at hF
    rw [← hC.1] at hF
    unfold agA at hA
    rw [← hC.2] at hA
    rcases n2 with n2 | n2
    · have : cellE w (mm (wL w) (I0 (wX w)) J0) i = cellE w memB i := by
        rw [cellO (e1.trans rfl) n2, cellO rfl n2]
        congr 2
        apply List.ext_getElem?
        intro k
        by_cases hk : k < nf (mC memB i)
        · rw [flds_get _ _ _ hk, flds_get _ _ _ hk]
          have hz := ag_at hF hk
          simp only [Bool.and_eq_true, beq_iff_eq] at hz
          unfold fV
          rw [eI, eJ, eR, hz.1.1, hz.1.2, hz.2]
        · rw [List.getElem?_eq_none (by rw [flds_len]; omega), List.getElem?_eq_none (by rw [flds_len]; omega)]
      rw [this]
      exact hold
    · by_cases hz : mC memB i = 10 ∨ mC memB i = 11 ∨ mC memB i = 12
      · rw [cellIs e1 hz, e2]
        rw [cellIs rfl hz] at hold
        have hold : H[wB w + i]? = some (vp_cell _ _) := hold
        show H[wB w + i]? = some (vp_cell _ _)
        rw [hold, vp_cell_i, vp_cell_i]
        congr 1
        refine arrV_ext fun k hk => ?_
        have hz := ag_at hA hk
        simp only [Bool.and_eq_true, beq_iff_eq] at hz
        rw [eI, hz.1]
      · have hz2 : mC memB i = 14 ∨ mC memB i = 15 ∨ mC memB i = 16 := by omega
        rw [cellRs e1 hz2, e2]
        rw [cellRs rfl hz2] at hold
        have hold : H[wB w + i]? = some (vp_cell _ _) := hold
        show H[wB w + i]? = some (vp_cell _ _)
        rw [hold, vp_cell_q, vp_cell_q]
        congr 1
        refine arrV_ext fun k hk => ?_
        have hz := ag_at hA hk
        simp only [Bool.and_eq_true, beq_iff_eq] at hz
        rw [eR, hz.2]
  · have ha : ¬ old (CL a) := ha
    show a < 262
    unfold CL at ha
    by_cases q1 : a = 1000000
    · rw [if_pos q1] at ha; exact absurd (by unfold old; omega) ha
    · rw [if_neg q1] at ha
      by_cases q2 : a = 1000001
      · rw [if_pos q2] at ha; exact absurd (by unfold old; omega) ha
      · rw [if_neg q2] at ha
        by_cases q3 : a = 1000002
        · rw [if_pos q3] at ha; exact absurd (by unfold old; omega) ha
        · rw [if_neg q3] at ha
          by_cases q4 : a < 262
          · exact q4
          · rw [clL_hi (by omega)] at ha
            exact absurd (by unfold old; omega) ha
  · have ha : a < 262 := ha
    show ¬ old (CL a)
    rw [CL_lo ha]
    exact (clL_new a ha).1
  all_goals
    have ha : CL a = _ := ha
    unfold CL at ha
    by_cases q1 : a = 1000000
    · rw [if_pos q1] at ha
      first
        | (refine ⟨q1, ?_, ?_⟩
           · show LN (wL w) a = _; unfold LN; rw [if_pos q1]
           · funext k; show I0 (wX w) a k = _; unfold I0; rw [if_pos q1])
        | (exfalso; omega)
    · rw [if_neg q1] at ha
      by_cases q2 : a = 1000001
      · rw [if_pos q2] at ha
        first
          | (refine ⟨q2, ?_, ?_⟩
             · show RR a 0 = _; unfold RR; rw [if_pos q2, if_pos rfl]
             · show I0 (wX w) a 1 = _; unfold I0; rw [if_neg q1, if_neg (by omega)])
          | (exfalso; omega)
      · rw [if_neg q2] at ha
        by_cases q3 : a = 1000002
        · rw [if_pos q3] at ha
          first
            | (refine ⟨q3, ?_, ?_⟩
               · show LN (wL w) a = _; unfold LN; rw [if_neg q1, if_pos q3]
               · intro k; show I0 (wX w) a k = _; unfold I0; rw [if_neg q1, if_pos q3])
            | (exfalso; omega)
        · rw [if_neg q3] at ha
          exfalso
          by_cases q4 : a < 262
          · have := (clL_new a q4).1
            omega
          · rw [clL_hi (by omega)] at ha
            omega
end
section
/-- the one pure statement that is left: the law's loop, from its first round on -/
def LawLoop : Prop := ∀ (L : Nat) (xs : Nat → Int32), L ≤ 320 → Wn 12 i_LAW_law 18 [(0, .ref 1000000), (1, .ref 0), (2, .ref 248), (3, .int 0)] [] (mm L (I0 xs) J0) (fun v M => v = some (.int 1) ∧ ∃ I J, M = mm L I J)
set_option maxRecDepth 100000 in
theorem strW : lw_tbl[303]? = some (.stringRef "KnotNames$Text" 19 "udlrio") ∧ lw_tbl[317]? = some (.laysStatic "java/lang/String" "COMPACT_STRINGS" "Z") ∧ lw_tbl[123]? = some (.arrayOver (.object "KnotNames$Row")) ∧ lw_tbl[165]? = some (.arrayOver (.object "KnotNames$Camp")) ∧ lw_tbl[235]? = some (.arrayOver (.array .int)) ∧ lw_tbl[87]? = some (.initialized "java/lang/String") := by decide +kernel
set_option maxRecDepth 100000 in
set_option maxHeartbeats 4000000 in
theorem St_start {s : State} {b L : Nat} {xs : Nat → Int32} (hts : ∀ x ∈ lw_tbl, x.before #[Value.ref b] s = true) (hX : va_X b L xs s s.heap) (hgv : (Jvm.Cond.and given_1 narrow_1).before #[Value.ref b] s = true) :
    ∃ (sA vA : Nat) (D : va_G) (ar : Nat → ClassId), St (s.heap.size, sA, vA, b, s.heap, L, xs, D, ar) s := by
  have hs := flat_of_before _ hgv
  have hK8 : ∀ ci, ci < 8 → ∃ (cC : ClassId) (iS : Nat → Nat), ∀ q, vwCl[ci]? = some q → u_Kn s q.1 q.2.1 q.2.2 cC iS := by
    intro ci hci
    obtain ⟨C, T, N, ty, hcls⟩ := cls_ok hci
    obtain ⟨cC, iS, hk⟩ := u_known (n := N) hts (fun x hx => (hcls.2.1 x hx).1) (hts _ hcls.2.2.2.2.2.2.2.2.2.1)
    refine ⟨cC, iS, fun q hq => ?_⟩
    have : q = (C, T, N) := Option.some.inj (hq.symm.trans hcls.1)
    rw [this]
    exact hk
  have hD : ∃ D : va_G, ∀ (c : Nat) (q : vw_C), vwCl[c]? = some q → u_Kn s q.1 q.2.1 q.2.2 (D.1 c) (D.2 c) := by
    have h0 : ∀ ci : Nat, ∃ z : ClassId × (Nat → Nat), ∀ q, vwCl[ci]? = some q → u_Kn s q.1 q.2.1 q.2.2 z.1 z.2 := by
      intro ci
      by_cases hci : ci < 8
      · obtain ⟨cC, iS, h⟩ := hK8 ci hci
        exact ⟨(cC, iS), h⟩
      · refine ⟨(0, fun _ => 0), fun q hq => ?_⟩
        have := (List.getElem?_eq_some_iff.mp hq).1
        have h8 : vwCl.length = 8 := rfl
        omega
    obtain ⟨f, hf⟩ := Classical.axiomOfChoice h0
    exact ⟨(fun c => (f c).1, fun c => (f c).2), fun c q hq => hf c q hq⟩
  obtain ⟨D, hD⟩ := hD
  obtain ⟨cI, kI, pI, fI, gI, hI⟩ := Cond.arrayClass_spec (hts _ (List.mem_of_getElem? aclW.1))
  obtain ⟨cC, kC, pC, fC, gC, hC⟩ := Cond.arrayClass_spec (hts _ (List.mem_of_getElem? aclW.2.1))
  obtain ⟨cZ, kZ, pZ, fZ, gZ, hZ⟩ := Cond.arrayClass_spec (hts _ (List.mem_of_getElem? aclW.2.2))
  have aoR := hts _ (List.mem_of_getElem? strW.2.2.1)
  have aoC := hts _ (List.mem_of_getElem? strW.2.2.2.1)
  have aoI := hts _ (List.mem_of_getElem? strW.2.2.2.2.1)
  obtain ⟨pR, cR, kR, fR1, -, fR2, fR3, fR4⟩ := Cond.arrayOver_spec aoR
  obtain ⟨pK, cK, kK, fK1, -, fK2, fK3, fK4⟩ := Cond.arrayOver_spec aoC
  obtain ⟨pG, cG, kG, fG1, -, fG2, fG3, fG4⟩ := arrayOverA_spec aoI
  have hA : ∀ a : Nat, a < s.heap.size → ¬ (fun q : Nat => s.heap.size ≤ q) a := fun a ha q => by have : s.heap.size ≤ a := q; omega
  obtain ⟨adK, adV, hSt, hev⟩ := vk_Sof (args := #[Value.ref b]) (s := s) (N := 1) (tm := fun _ => Term.string "KnotNames$Text" 19) (len := [6]) (byt := [byU]) (A := fun q : Nat => s.heap.size ≤ q)
    (fun i hi => by rw [show i = 0 by omega]; decide) (fun i _ => hs _ (by decide +kernel)) (fun i _ => hs _ (by decide +kernel)) (fun i _ => hs _ (by decide +kernel)) (fun i hi => by rw [show i = 0 by omega]; exact hs (Cond.eq (.length (.field (.string "KnotNames$Text" 19) "java/lang/String" "value" "[B")) (.int 6)) (by decide +kernel))
    (fun i hi j hj => by
      have hi0 : i = 0 := by omega
      subst hi0
      have hj : j < 6 := hj
      rcases (show j = 0 ∨ j = 1 ∨ j = 2 ∨ j = 3 ∨ j = 4 ∨ j = 5 by omega) with rfl | rfl | rfl | rfl | rfl | rfl
      · exact hs (Cond.eq (.elem (.field (.string "KnotNames$Text" 19) "java/lang/String" "value" "[B") (.int 0)) (.int 117)) (by decide +kernel)
      · exact hs (Cond.eq (.elem (.field (.string "KnotNames$Text" 19) "java/lang/String" "value" "[B") (.int 1)) (.int 100)) (by decide +kernel)
      · exact hs (Cond.eq (.elem (.field (.string "KnotNames$Text" 19) "java/lang/String" "value" "[B") (.int 2)) (.int 108)) (by decide +kernel)
      · exact hs (Cond.eq (.elem (.field (.string "KnotNames$Text" 19) "java/lang/String" "value" "[B") (.int 3)) (.int 114)) (by decide +kernel)
      · exact hs (Cond.eq (.elem (.field (.string "KnotNames$Text" 19) "java/lang/String" "value" "[B") (.int 4)) (.int 105)) (by decide +kernel)
      · exact hs (Cond.eq (.elem (.field (.string "KnotNames$Text" 19) "java/lang/String" "value" "[B") (.int 5)) (.int 111)) (by decide +kernel))
    (fun i j hi hj hne => by omega) hA
  have hZs := va_Zof (A := fun q : Nat => s.heap.size ≤ q) (hts _ (List.mem_of_getElem? strW.2.1)) (hts _ (List.mem_of_getElem? strW.2.2.2.2.2)) (va_eqi (hs (Cond.eq (.static "java/lang/String" "COMPACT_STRINGS" "Z") (.int 1)) (by decide +kernel))) hA
  refine ⟨adK 0, adV 0, D, (fun t => if t = 10 then cI else if t = 11 then cC else if t = 12 then cZ else if t = 14 then cR else if t = 15 then cK else cG), fun x hx hg a => ?_, ⟨hD, fun k q hq => ?_⟩, hX, vk_R.of (hts _ (List.mem_of_getElem? strW.1)) (hev 0 (by omega)), ?_, hZs, va_AO.of aoR, va_AO.of aoC, aoI⟩
  · have hx1 := hts x hx
    cases x <;> first
      | exact va_Nw.use rfl (va_Nw.of rfl hx1)
      | exact word_at (args := #[Value.ref b]) (State.WarmedH.refl s) (good_of_word hg) hx1
  · have hk := (List.getElem?_eq_some_iff.mp hq).1
    have hk : k < 6 := hk
    rcases (show k = 0 ∨ k = 1 ∨ k = 2 ∨ k = 3 ∨ k = 4 ∨ k = 5 by omega) with rfl | rfl | rfl | rfl | rfl | rfl
    · cases hq
      exact ⟨fun N z => ⟨(fun q h => by cases h), kI, gI, pI, hI⟩, fI⟩
    · cases hq
      exact ⟨fun N z => ⟨(fun q h => by cases h), kC, gC, pC, hC⟩, fC⟩
    · cases hq
      exact ⟨fun N z => ⟨(fun q h => by cases h), kZ, gZ, pZ, hZ⟩, fZ⟩
    · cases hq
      exact ⟨fun N z => ⟨(fun q h => by cases h), kR, fR2, pR, fR3⟩, kR, pR, fR2, fR3, fR1, fR4⟩
    · cases hq
      exact ⟨fun N z => ⟨(fun q h => by cases h), kK, fK2, pK, fK3⟩, kK, pK, fK2, fK3, fK1, fK4⟩
    · cases hq
      exact ⟨fun N z => ⟨(fun q h => by cases h), kG, fG2, pG, fG3⟩, fG4⟩
  · refine ⟨fun i hi => ?_, fun i j _ _ _ => by omega⟩
    have hi0 : i = 0 := by omega
    subst hi0
    exact hSt.1 0 (by omega)
def mLAW : MT := m_LAW_law
set_option maxRecDepth 100000 in
theorem lawM : mt[i_LAW_law]? = some m_LAW_law := by rfl
set_option maxRecDepth 1000000 in
theorem memS_b : mN memA0 ≤ 600000 ∧ mS memA0 ≤ 7302250 ∧ mN memA ≤ 600000 ∧ mS memA ≤ 7302250 ∧ mN memB0 ≤ 600000 ∧ mS memB0 ≤ 7302250 ∧ mN memB ≤ 600000 ∧ mS memB ≤ 7302250 ∧ mN memA = 248 ∧ mN memB0 = 249 := by decide +kernel
set_option maxRecDepth 100000 in
theorem sp0 (M : Mem) (h : mN M < 800000) : sp m_LAW_law 12 0 [(0, .ref 1000000)] [] M = some (.inl (3, [(0, .ref 1000000)], [.ref (mN M)], fresh M 6 0 12)) := by
  show (if mN M < 800000 ∧ 6 < 8 then s0K 3 [(0, .ref 1000000)] (.ref (mN M) :: []) (fresh M 6 0 12) else none) = _
  rw [if_pos ⟨h, by decide⟩]
  rfl
set_option maxRecDepth 100000 in
theorem sp8 (M : Mem) (x : Nat) (h : mN M < 800000) : sp m_LAW_law 12 8 [(0, .ref 1000000), (1, .ref x)] [] M = some (.inl (11, [(0, .ref 1000000), (1, .ref x)], [.ref (mN M)], fresh M 7 0 20)) := by
  show (if mN M < 800000 ∧ 7 < 8 then s0K 11 [(0, .ref 1000000), (1, .ref x)] (.ref (mN M) :: []) (fresh M 7 0 20) else none) = _
  rw [if_pos ⟨h, by decide⟩]
  rfl
set_option maxRecDepth 100000 in
set_option maxHeartbeats 4000000 in
/-- THE LAW, from its entry, out of its loop -/
theorem start_of (hLL : LawLoop) {p : Program} {e : Env} {s : State} {m : MethodId} {below : List Frame} {meth : Method} {c : Code} (l : Launch) {b L : Nat} {xs : Nat → Int32} (hL : L ≤ 320) (C0 : lw_At p s m meth c b L xs) : W p l e room_1 s m #[Value.ref b] below meth c s.heap [] 0 0 (lw_Z below #[Value.ref b] s) (entryFrame m ([Value.ref b] : List Value).toArray 4) := by
  obtain ⟨hx, hb, hr, hml, hown, hts, hX, hbl, hlocks, hgv⟩ := id C0
  obtain ⟨sA, vA, D, ar, hSt⟩ := St_start hts hX hgv
  generalize hw : ((s.heap.size, sA, vA, b, s.heap, L, xs, D, ar) : WP) = w at hSt
  have wB0 : wB w = s.heap.size := by rw [← hw]; rfl
  have wH0 : wH w = s.heap := by rw [← hw]; rfl
  have wL0 : wL w = L := by rw [← hw]; rfl
  have wX0 : wX w = xs := by rw [← hw]; rfl
  have wS0 : wSc w = b := by rw [← hw]; rfl
  have hwz : (wH w).size = wB w := by rw [wB0, wH0]
  have hH0 : HR w mem0 s.heap := by
    refine ⟨by rw [wB0]; rfl, fun q _ => by rw [wH0], fun i hi => absurd hi (Nat.not_lt_zero i), by show 0 ≤ 900000; omega, fun a ha => ?_, fun a ha => absurd ha (Nat.not_lt_zero a), fun a ha => ?_, fun a ha => ?_, fun a ha => ?_⟩
    · exfalso
      apply ha
      show old (if a = 1000001 then 20 else if a = 1000002 then 13 else 99)
      unfold old
      split
      · omega
      · split <;> omega
    all_goals
      have ha : (if a = 1000001 then 20 else if a = 1000002 then 13 else 99) = _ := ha
      by_cases q1 : a = 1000001
      · rw [if_pos q1] at ha
        first
          | (refine ⟨q1, ?_, ?_⟩
             · show (if a = 1000001 ∧ 0 = 0 then 1000002 else 999999) = _; rw [if_pos ⟨q1, rfl⟩]
             · show (if a = 1000002 then _ else _) = _; rw [if_neg (by omega)])
          | (exfalso; omega)
      · rw [if_neg q1] at ha
        by_cases q2 : a = 1000002
        · rw [if_pos q2] at ha
          first
            | (refine ⟨q2, ?_, ?_⟩
               · show (if a = 1000002 then 6 else 0) = _; rw [if_pos q2]
               · intro k; show (if a = 1000002 then _ else _) = _; rw [if_pos q2])
            | (exfalso; omega)
        · rw [if_neg q2] at ha
          exfalso; omega
  have cx0 : Cx w p room_1 s m #[Value.ref b] meth c m_LAW_law.2.2.1 m_LAW_law.1 m_LAW_law.2.2.2.1 0 0 600000 7302250 m_LAW_law.2.2.2.2.2.1 :=
    ⟨hx, hb, hml, hown, hSt, fun q _ => by rw [wH0], ⟨by rw [wB0]; rfl, hwz⟩, Nat.le_refl _, Nat.le_refl _, fun h => by cases h⟩
  obtain ⟨b1, b2, b3, b4, b5, b6, b7, b8, b9, b10⟩ := memS_b
  -- the loop
  have hloop : Gd w p l e room_1 s m #[Value.ref b] below meth c 4 0 0 (lw_Z below #[Value.ref b] s) 18 [(0, .ref 1000000), (1, .ref 0), (2, .ref 248), (3, .int 0)] [] memB := by
    obtain ⟨n, v, M', hrun, hv, I, J, hM'⟩ := hLL L xs hL
    have cx1 : Cx w p room_1 s m #[Value.ref b] meth c m_LAW_law.2.2.1 m_LAW_law.1 m_LAW_law.2.2.2.1 0 0 (mN M') (mS M') m_LAW_law.2.2.2.2.2.1 :=
      ⟨hx, hb, hml, hown, hSt, fun q _ => by rw [wH0], ⟨by rw [wB0]; rfl, hwz⟩, by rw [hM']; show 262 - 0 ≤ 600000; omega, by rw [hM']; show 3835 - 0 ≤ 7302250; omega, fun h => by cases h⟩
    have hG := bok l hwz n 12 i_LAW_law m_LAW_law 18 _ _ _ v M' lawM hrun p e room_1 s m #[Value.ref b] below meth c (lw_Z below #[Value.ref b] s) 0 0 cx1 (by show 12 ≤ 2048; omega) (by show 64 * 12 ≤ 84000; omega) ?_
    · intro H locs ls hH h1 h2 hl hls
      have hH2 := HR_mm hH
      rw [wL0, wX0] at hH2
      have := hG H locs ls hH2 (Nat.zero_le _) (Nat.zero_le _) hl hls
      have e1 : mN (mm L (I0 xs) J0) = mN memB := by rw [memB_N.1]; rfl
      have e2 : mS (mm L (I0 xs) J0) = mS memB := by rw [memB_N.2]; rfl
      rw [e1, e2] at this
      exact this
    · intro i pc st ls H locs dg ht hH hlc
      subst hv
      have hst : i = .ireturn ∧ st = [.int 1] := by
        unfold stT at ht
        split at ht
        · split at ht
          · split at ht
            · cases ht; exact ⟨rfl, rfl⟩
            · obtain ⟨-, ht⟩ := if_s ht
              cases ht; exact ⟨rfl, rfl⟩
            · obtain ⟨-, ht⟩ := if_s ht
              cases ht; exact ⟨rfl, rfl⟩
            · cases ht
          · cases ht
        · split at ht
          · split at ht <;> cases ht
          · cases ht
        · split at ht
          · split at ht <;> cases ht
          · cases ht
        · split at ht
          · split at ht <;> cases ht
          · cases ht
        · cases ht
      obtain ⟨rfl, rfl⟩ := hst
      refine va_forget (fun q hq => by rw [← wB0]; exact hlc q hq) ?_
      refine W.widen (k := 600000) (n := 7302250) (by rw [hM']; show 262 - 0 ≤ 600000; omega) (by rw [hM']; show 3835 - 0 ≤ 7302250; omega) ?_
      exact lw_ret hx hb hr hlocks dg
  -- the way to it
  have hgo : Gd w p l e room_1 s m #[Value.ref b] below meth c 4 0 0 (lw_Z below #[Value.ref b] s) 0 [(0, .ref 1000000)] [] mem0 := by
    have R1 : 12 ≤ room_1.frames := by show 12 ≤ 2048; omega
    have R2 : 64 * 12 ≤ room_1.locals := by show 64 * 12 ≤ 84000; omega
    refine Gd_step lawM cx0 R1 R2 (sp0 mem0 (by show 0 < 800000; omega)) ⟨b1, b2⟩ ?_
    refine Gd_step (M' := memA0) (pc' := 4) (lv' := [(0, .ref 1000000)]) (st' := [.ref 0, .ref 0]) lawM cx0 R1 R2 rfl ⟨b1, b2⟩ ?_
    refine Gd_call (n := 20000) (d' := 11) (pc' := 7) (r := none) (M1 := memA) (cm := i_KN_init) (As := [.ref 0]) (rest := [.ref 0]) hwz lawM cx0 R1 R2 rfl rfl memA_ok ⟨b3, b4⟩ ?_
    refine Gd_step (M' := memA) (pc' := 8) (lv' := [(0, .ref 1000000), (1, .ref 0)]) (st' := []) lawM cx0 R1 R2 rfl ⟨b3, b4⟩ ?_
    refine Gd_step lawM cx0 R1 R2 (sp8 memA 0 (by omega)) ⟨b5, b6⟩ ?_
    rw [b9]
    refine Gd_step (M' := memB0) (pc' := 12) (lv' := [(0, .ref 1000000), (1, .ref 0)]) (st' := [.ref 248, .ref 248]) lawM cx0 R1 R2 rfl ⟨b5, b6⟩ ?_
    refine Gd_call (n := 20000) (d' := 11) (pc' := 15) (r := none) (M1 := memB) (cm := i_MD_init) (As := [.ref 248]) (rest := [.ref 248]) hwz lawM cx0 R1 R2 rfl rfl memB_ok ⟨b7, b8⟩ ?_
    refine Gd_step (M' := memB) (pc' := 16) (lv' := [(0, .ref 1000000), (1, .ref 0), (2, .ref 248)]) (st' := []) lawM cx0 R1 R2 rfl ⟨b7, b8⟩ ?_
    refine Gd_step (M' := memB) (pc' := 17) (lv' := [(0, .ref 1000000), (1, .ref 0), (2, .ref 248)]) (st' := [.int 0]) lawM cx0 R1 R2 rfl ⟨b7, b8⟩ ?_
    exact Gd_step (M' := memB) (pc' := 18) (lv' := [(0, .ref 1000000), (1, .ref 0), (2, .ref 248), (3, .int 0)]) (st' := []) lawM cx0 R1 R2 rfl ⟨b7, b8⟩ hloop
  have hl := lv_entry ([.ref b]) (n := 4) (Nat.le_of_ble_eq_true rfl)
  rw [lg_entry_eq]
  have hmv : lv_args 0 [.ref b] = mvl w [(0, .ref 1000000)] := by
    show [(0, Value.ref b)] = [(0, .ref (rho w 1000000))]
    have : rho w 1000000 = b := by unfold rho; rw [if_neg (by omega), if_pos rfl, wS0]
    rw [this]
  rw [hmv] at hl
  exact hgo s.heap [] _ hH0 (Nat.le_refl _) (Nat.le_refl _) (fun q h => by cases h) hl
end
section
/-! ===== memory behind the constructors: what reads and writes are ===== -/
section MM
variable (L : Nat) (I : Nat → Nat → Int32) (J : Nat → Nat → Int64)
theorem mm_C : mC (mm L I J) = CL := rfl
theorem mm_L : mL (mm L I J) = LN L := rfl
theorem mm_I : mI (mm L I J) = I := rfl
theorem mm_J : mJ (mm L I J) = J := rfl
theorem mm_R : mR (mm L I J) = RR := rfl
theorem mm_sI (a k : Nat) (v : Int32) : setI (mm L I J) a k v = mm L (up2 I a k v) J := rfl
theorem mm_sJ (a k : Nat) (v : Int64) : setJ (mm L I J) a k v = mm L I (up2 J a k v) := rfl
end MM
/-- r is a row with room for cp turns; its turns lie in the next cell -/
def Rw (r cp : Nat) : Prop := CL r = 4 ∧ RR r 0 = r + 1 ∧ CL (r + 1) = 10 ∧ lnL.getD (r + 1) 0 = cp ∧ r < 262 ∧ cp ≤ 72
theorem Rw_LN {r cp : Nat} (h : Rw r cp) (L : Nat) : LN L (r + 1) = cp := by
  unfold LN
  rw [if_neg (by have := h.2.2.2.2.1; omega), if_neg (by have := h.2.2.2.2.1; omega)]
  exact h.2.2.2.1
/-- the row r holds the turns l -/
def Rl (I : Nat → Nat → Int32) (r : Nat) (l : List Nat) : Prop := I r 1 = nI l.length ∧ (∀ k, k < l.length → I (r + 1) k = nI (l.getD k 0)) ∧ ∀ x ∈ l, x < 6
def gt (l : List Nat) (j : Nat) : Int32 := if j < l.length then nI (l.getD j 0) else -9
theorem inb_nI {j n : Nat} (h : j < n) (hn : n < 2 ^ 31) : inb (nI j) n := nI_in h hn
theorem ix_nI {j : Nat} (h : j < 2 ^ 31) : (nI j).toNatClampNeg = j := nI_clamp h
theorem Rl_6 {I : Nat → Nat → Int32} {r : Nat} {l : List Nat} (h : Rl I r l) {k : Nat} (hk : k < l.length) : l.getD k 0 < 6 := by
  apply h.2.2
  rw [List.getD_eq_getElem?_getD, List.getElem?_eq_getElem hk]
  exact List.getElem_mem hk
/-- nothing changes outside of row r -/
def Fr1 (r : Nat) (I I' : Nat → Nat → Int32) : Prop := ∀ a, a ≠ r → a ≠ r + 1 → I' a = I a
theorem Fr1_rf (r : Nat) (I : Nat → Nat → Int32) : Fr1 r I I := fun _ _ _ => rfl
theorem Fr1_tr {r : Nat} {I I' I'' : Nat → Nat → Int32} (h : Fr1 r I I') (h2 : Fr1 r I' I'') : Fr1 r I I'' := fun a h1 h3 => (h2 a h1 h3).trans (h a h1 h3)
theorem Rl_keep {I I' : Nat → Nat → Int32} {r : Nat} {l : List Nat} (h : Rl I r l) (h1 : I' r = I r) (h2 : I' (r + 1) = I (r + 1)) : Rl I' r l := ⟨by rw [h1]; exact h.1, fun k hk => by rw [h2]; exact h.2.1 k hk, h.2.2⟩
theorem Rw_ne {r o cr co : Nat} (hr : Rw r cr) (ho : Rw o co) (h : r ≠ o) : r ≠ o + 1 ∧ r + 1 ≠ o ∧ r + 1 ≠ o + 1 := by
  refine ⟨fun e => ?_, fun e => ?_, by omega⟩
  · have h1 := hr.1
    rw [e, ho.2.2.1] at h1
    omega
  · have h1 := ho.1
    rw [← e, hr.2.2.1] at h1
    omega
theorem Rl_fr {I I' : Nat → Nat → Int32} {r o cr co : Nat} {l : List Nat} (hr : Rw r cr) (ho : Rw o co) (hne : r ≠ o) (hF : Fr1 r I I') (h : Rl I o l) : Rl I' o l := by
  obtain ⟨a1, a2, a3⟩ := Rw_ne hr ho hne
  exact Rl_keep h (hF o (Ne.symm hne) (Ne.symm a2)) (hF (o + 1) (Ne.symm a1) (Ne.symm a3))
def tie (l : List Nat) (t : Nat) : List Nat := if l.getLast? = some (t ^^^ 1) then l.dropLast else l ++ [t]
def tieAll (l ts : List Nat) : List Nat := ts.foldl tie l
theorem x1_lt {t : Nat} (h : t < 6) : t ^^^ 1 < 6 := by
  rcases (show t = 0 ∨ t = 1 ∨ t = 2 ∨ t = 3 ∨ t = 4 ∨ t = 5 by omega) with rfl | rfl | rfl | rfl | rfl | rfl <;> decide
theorem x1_x1 (t : Nat) : (t ^^^ 1) ^^^ 1 = t := by rw [Nat.xor_assoc, Nat.xor_self, Nat.xor_zero]
theorem nI_x1 {t : Nat} (h : t < 6) : nI t ^^^ 1 = nI (t ^^^ 1) := by
  rcases (show t = 0 ∨ t = 1 ∨ t = 2 ∨ t = 3 ∨ t = 4 ∨ t = 5 by omega) with rfl | rfl | rfl | rfl | rfl | rfl <;> decide
theorem tie_6 {l : List Nat} {t : Nat} (h : ∀ x ∈ l, x < 6) (ht : t < 6) : ∀ x ∈ tie l t, x < 6 := by
  intro x hx
  unfold tie at hx
  split at hx
  · exact h x ((List.dropLast_sublist l).subset hx)
  · rcases List.mem_append.mp hx with q | q
    · exact h x q
    · rw [List.mem_singleton.mp q]; exact ht
theorem tie_len (l : List Nat) (t : Nat) : (tie l t).length ≤ l.length + 1 := by
  unfold tie
  split
  · rw [List.length_dropLast]; omega
  · rw [List.length_append]; exact Nat.le_refl _
theorem tieAll_6 : ∀ {ts l : List Nat}, (∀ x ∈ l, x < 6) → (∀ x ∈ ts, x < 6) → ∀ x ∈ tieAll l ts, x < 6 := by
  intro ts
  induction ts with
  | nil => intro l h _ ; exact h
  | cons t r ih => intro l h ht; exact ih (tie_6 h (ht t List.mem_cons_self)) (fun x hx => ht x (List.mem_cons_of_mem _ hx))
theorem tieAll_len : ∀ (ts l : List Nat), (tieAll l ts).length ≤ l.length + ts.length := by
  intro ts
  induction ts with
  | nil => intro l; exact Nat.le_refl _
  | cons t r ih =>
    intro l
    have h1 := ih (tie l t)
    have h2 := tie_len l t
    show (tieAll (tie l t) r).length ≤ _
    rw [List.length_cons]
    omega
theorem last_getD {l : List Nat} (h : 0 < l.length) : l.getLast? = some (l.getD (l.length - 1) 0) := by
  rw [List.getLast?_eq_getElem?, List.getD_eq_getElem?_getD, List.getElem?_eq_getElem (by omega)]
  rfl
theorem getD_drop {l : List Nat} {k : Nat} (h : k < l.length - 1) : l.dropLast.getD k 0 = l.getD k 0 := by
  rw [List.getD_eq_getElem?_getD, List.getD_eq_getElem?_getD, List.getElem?_dropLast, if_pos h]
theorem getD_app {l : List Nat} {k t : Nat} (h : k < l.length) : (l ++ [t]).getD k 0 = l.getD k 0 := by
  rw [List.getD_eq_getElem?_getD, List.getD_eq_getElem?_getD, List.getElem?_append_left h]
theorem getD_end {l : List Nat} {t : Nat} : (l ++ [t]).getD l.length 0 = t := by
  rw [List.getD_eq_getElem?_getD, List.getElem?_append_right (Nat.le_refl _), Nat.sub_self]
  rfl
section RowC
variable {d r cp L : Nat} {I : Nat → Nat → Int32} {J : Nat → Nat → Int64} {l : List Nat}
theorem c_at (hr : Rw r cp) (hl : Rl I r l) (hc : l.length ≤ cp) {j : Nat} (hj : j < 2 ^ 31) (Q : Int32 → Mem → Prop) : WI d i_Row_at [.ref r, .int (nI j)] (mm L I J) Q ↔ Q (gt l j) (mm L I J) := by
  obtain ⟨r1, r2, r3, r4, r5, r6⟩ := id hr
  have r4 := Rw_LN hr L
  rw [E_Row_at, if_neg (nI_pos hj), mm_C, mm_R, mm_L, mm_I, if_pos r1, r2, r3, r4, hl.1]
  unfold gt
  by_cases h : j < l.length
  · rw [if_pos (nI_lt h (by omega)), if_pos r1, if_neg (by omega), if_pos ⟨Or.inl rfl, inb_nI (by omega) (by omega)⟩, ix_nI hj, hl.2.1 j h, if_pos h]
  · rw [if_neg (nI_nlt (by omega) hj), if_neg h]
theorem c_at0 (Q : Int32 → Mem → Prop) {M : Mem} {k : Int32} (hk : k < 0) : WI d i_Row_at [.ref r, .int k] M Q ↔ Q (-9) M := by
  rw [E_Row_at, if_pos hk]
theorem c_last (hr : Rw r cp) (hl : Rl I r l) (hc : l.length ≤ cp) (h0 : 0 < l.length) (Q : Int32 → Mem → Prop) : WI (d + 1) i_Row_last [.ref r] (mm L I J) Q ↔ Q (nI (l.getD (l.length - 1) 0)) (mm L I J) := by
  obtain ⟨r1, r2, r3, r4, r5, r6⟩ := id hr
  have e : nI l.length - 1 = nI (l.length - 1) := by
    have := nI_pred (l.length - 1)
    rw [show l.length - 1 + 1 = l.length by omega] at this
    exact this
  rw [E_Row_last, mm_C, mm_I, if_pos r1, if_pos r1, hl.1, e, c_at hr hl hc (by omega)]
  unfold gt
  rw [if_pos (by omega)]
theorem c_empty (hr : Rw r cp) (hl : Rl I r l) (Q : Int32 → Mem → Prop) (h : ∀ I', Rl I' r [] → Fr1 r I I' → Q (nI l.length) (mm L I' J)) : WI d i_Row_empty [.ref r] (mm L I J) Q := by
  obtain ⟨r1, r2, r3, r4, r5, r6⟩ := id hr
  rw [E_Row_empty, mm_C, mm_I, if_pos r1, if_pos r1, hl.1, mm_sI]
  refine h _ ⟨by rw [up2_same]; rfl, fun k hk => absurd hk (Nat.not_lt_zero k), fun x hx => by cases hx⟩ (fun a h1 h2 => up2_ne _ _ _ h1)
theorem c_append (hr : Rw r cp) (hl : Rl I r l) (hc : l.length < cp) {t : Nat} (ht : t < 6) (Q : Mem → Prop) (h : ∀ I', Rl I' r (l ++ [t]) → Fr1 r I I' → Q (mm L I' J)) : WV d i_Row_append [.ref r, .int (nI t)] (mm L I J) Q := by
  obtain ⟨r1, r2, r3, r4, r5, r6⟩ := id hr
  have r4 := Rw_LN hr L
  rw [E_Row_append, mm_C, mm_R, mm_L, mm_I, if_pos r1, if_pos r1, r2, if_neg (by omega), r3, if_pos (Or.inl rfl), r4, hl.1, if_pos (nI_lt hc (by omega)), if_pos r1, if_neg (by omega), if_pos r1, if_pos ⟨rfl, inb_nI hc (by omega)⟩, mm_sI, mm_C, if_pos r1, if_pos r1, mm_I, mm_sI, ix_nI (by omega), up2_ne _ _ _ (show r ≠ r + 1 by omega), hl.1, nI_1]
  refine h _ ⟨?_, fun k hk => ?_, ?_⟩ (fun a h1 h2 => ?_)
  · rw [up2_same, List.length_append]
    rfl
  · rw [up2_ne _ _ _ (show r + 1 ≠ r by omega)]
    rw [List.length_append, List.length_singleton] at hk
    by_cases e : k = l.length
    · rw [e, up2_same, getD_end]
    · rw [up2_other _ _ _ e, getD_app (by omega), hl.2.1 k (by omega)]
  · intro x hx
    rcases List.mem_append.mp hx with q | q
    · exact hl.2.2 x q
    · rw [List.mem_singleton.mp q]; exact ht
  · rw [up2_ne _ _ _ h1, up2_ne _ _ _ h2]
theorem c_dropLast (hr : Rw r cp) (hl : Rl I r l) (hc : l.length ≤ cp) (Q : Mem → Prop) (h : ∀ I', Rl I' r l.dropLast → Fr1 r I I' → Q (mm L I' J)) : WV d i_Row_dropLast [.ref r] (mm L I J) Q := by
  obtain ⟨r1, r2, r3, r4, r5, r6⟩ := id hr
  rw [E_Row_dropLast, mm_C, mm_I, if_pos r1, hl.1]
  by_cases h0 : 0 < l.length
  · have e : nI l.length - 1 = nI (l.length - 1) := by
      have := nI_pred (l.length - 1)
      rw [show l.length - 1 + 1 = l.length by omega] at this
      exact this
    have hp : (0 : Int32) < nI l.length := by
      have := nI_lt h0 (show l.length < 2 ^ 31 by omega)
      rw [nI_0] at this
      exact this
    rw [if_pos hp, if_pos r1, if_pos r1, e, mm_sI]
    refine h _ ⟨?_, fun k hk => ?_, fun x hx => hl.2.2 x ((List.dropLast_sublist l).subset hx)⟩ (fun a h1 h2 => up2_ne _ _ _ h1)
    · rw [up2_same, List.length_dropLast]
    · rw [List.length_dropLast] at hk
      rw [up2_ne _ _ _ (show r + 1 ≠ r by omega), getD_drop hk, hl.2.1 k (by omega)]
  · have e0 : l = [] := List.eq_nil_of_length_eq_zero (by omega)
    subst e0
    have hn : ¬ (0 : Int32) < nI ([] : List Nat).length := by decide
    rw [if_neg hn]
    exact h I hl (Fr1_rf r I)
theorem c_undoing {t : Nat} (ht : t < 6) (M : Mem) (Q : Int32 → Mem → Prop) : WI d i_KN_undoing [.int (nI t)] M Q ↔ Q (nI (t ^^^ 1)) M := by
  rw [E_KN_undoing, nI_x1 ht]
theorem c_endsU (hr : Rw r cp) (hl : Rl I r l) (hc : l.length ≤ cp) {t : Nat} (ht : t < 6) (Q : Int32 → Mem → Prop) : WI (d + 1) i_Row_endsUndoing [.ref r, .int (nI t)] (mm L I J) Q ↔ Q (if l.getLast? = some (t ^^^ 1) then 1 else 0) (mm L I J) := by
  obtain ⟨r1, r2, r3, r4, r5, r6⟩ := id hr
  have r4 := Rw_LN hr L
  rw [E_Row_endsUndoing, mm_C, mm_R, mm_L, mm_I, if_pos r1, hl.1]
  by_cases h0 : 0 < l.length
  · have e : nI l.length - 1 = nI (l.length - 1) := by
      have := nI_pred (l.length - 1)
      rw [show l.length - 1 + 1 = l.length by omega] at this
      exact this
    have hp : (0 : Int32) < nI l.length := by
      have := nI_lt h0 (show l.length < 2 ^ 31 by omega)
      rw [nI_0] at this
      exact this
    have h6 := Rl_6 hl (show l.length - 1 < l.length by omega)
    have h7 := x1_lt ht
    rw [if_pos hp, if_pos r1, r2, if_neg (by omega), if_pos r1, r3, r4, e, if_pos ⟨Or.inl rfl, inb_nI (by omega) (by omega)⟩, c_undoing ht, ix_nI (by omega), hl.2.1 _ (by omega), last_getD h0]
    by_cases h8 : l.getD (l.length - 1) 0 = t ^^^ 1
    · rw [if_pos (by rw [h8]), if_pos (by rw [h8])]
    · rw [if_neg (fun q => h8 ((nI_eq (by omega) (by omega)).mp q)), if_neg (fun q => h8 (Option.some.inj q))]
  · have e0 : l = [] := List.eq_nil_of_length_eq_zero (by omega)
    subst e0
    have hn : ¬ (0 : Int32) < nI ([] : List Nat).length := by decide
    rw [if_neg hn]
    rfl
theorem c_takes (hr : Rw r cp) (hl : Rl I r l) (hc : l.length ≤ cp) {t : Nat} (ht : t < 6) (Q : Int32 → Mem → Prop) : WI (d + 2) i_Row_takesTight [.ref r, .int (nI t)] (mm L I J) Q ↔ Q (if l.length < cp ∨ l.getLast? = some (t ^^^ 1) then 1 else 0) (mm L I J) := by
  obtain ⟨r1, r2, r3, r4, r5, r6⟩ := id hr
  have r4 := Rw_LN hr L
  rw [E_Row_takesTight, mm_C, mm_R, mm_L, mm_I, if_pos r1, if_pos r1, r2, if_neg (by omega), r3, if_pos (Or.inl rfl), r4, hl.1]
  by_cases h0 : l.length < cp
  · rw [if_pos (nI_lt h0 (by omega)), if_pos (Or.inl h0)]
  · rw [if_neg (nI_nlt (by omega) (by omega)), if_pos r1, c_endsU hr hl hc ht]
    by_cases h1 : l.getLast? = some (t ^^^ 1)
    · rw [if_pos h1, if_neg (by decide), if_pos (Or.inr h1)]
    · rw [if_neg h1, if_pos rfl, if_neg (by simp [h0, h1])]
theorem c_tie (hr : Rw r cp) (hl : Rl I r l) {t : Nat} (hc : l.length ≤ cp) (hc2 : (tie l t).length ≤ cp) (ht : t < 6) (Q : Mem → Prop) (h : ∀ I', Rl I' r (tie l t) → Fr1 r I I' → Q (mm L I' J)) : WV (d + 2) i_Row_appendTight [.ref r, .int (nI t)] (mm L I J) Q := by
  obtain ⟨r1, r2, r3, r4, r5, r6⟩ := id hr
  rw [E_Row_appendTight, mm_C, if_pos r1, c_endsU hr hl hc ht]
  unfold tie at h hc2
  by_cases h1 : l.getLast? = some (t ^^^ 1)
  · rw [if_pos h1, if_neg (by decide), mm_C, if_pos r1]
    rw [if_pos h1] at h
    exact c_dropLast hr hl hc Q h
  · rw [if_neg h1, if_pos rfl, mm_C, if_pos r1]
    rw [if_neg h1] at h hc2
    rw [List.length_append, List.length_singleton] at hc2
    exact c_append hr hl (by omega) ht Q h
end RowC
/-- ints of a loop's counter -/
theorem lt_nI {a b : Nat} (ha : a < 2 ^ 31) (hb : b < 2 ^ 31) : (nI a < nI b) = (a < b) := propext (nI_ltI ha hb)
theorem eq_nI {a b : Nat} (ha : a < 2 ^ 31) (hb : b < 2 ^ 31) : (nI a = nI b) = (a = b) := propext (nI_eq ha hb)
section RowD
variable {d r cp L : Nat} {J : Nat → Nat → Int64}
theorem gt_lt {l : List Nat} {k : Nat} (h : k < l.length) : gt l k = nI (l.getD k 0) := by unfold gt; rw [if_pos h]
theorem drop_cons {m : List Nat} {k : Nat} (h : k < m.length) : m.drop k = m.getD k 0 :: m.drop (k + 1) := by
  rw [List.getD_eq_getElem?_getD, List.getElem?_eq_getElem h]
  exact List.drop_eq_getElem_cons h
theorem c_tieAll_loop {o co : Nat} (hr : Rw r cp) (ho : Rw o co) (hne : r ≠ o) {m : List Nat} (hm : m.length ≤ co) (Q : Option Value → Mem → Prop) : ∀ (n k : Nat) (I : Nat → Nat → Int32) (l : List Nat), k + n = m.length → Rl I r l → Rl I o m → l.length + n ≤ cp → (∀ I', Rl I' r (tieAll l (m.drop k)) → Fr1 r I I' → Q none (mm L I' J)) →
    Wn (d + 3) i_Row_appendAllTight 2 [(0, .ref r), (1, .ref o), (2, .int (nI k))] [] (mm L I J) Q := by
  intro n
  induction n with
  | zero =>
    intro k I l hk hl hm2 hc h
    rw [H_Row_appendAllTight_2, mm_C, mm_I, if_pos ho.1, hm2.1, if_neg (nI_nlt (by omega) (by have := ho.2.2.2.2.2; omega))]
    have : m.drop k = [] := List.drop_eq_nil_of_le (by omega)
    rw [this] at h
    exact h I hl (Fr1_rf r I)
  | succ n ih =>
    intro k I l hk hl hm2 hc h
    have hco := ho.2.2.2.2.2
    have hcp := hr.2.2.2.2.2
    rw [H_Row_appendAllTight_2, mm_C, mm_I, if_pos ho.1, hm2.1, if_pos (nI_lt (by omega) (by omega)), if_pos ho.1, c_at ho hm2 hm (by omega), mm_C, if_pos hr.1, gt_lt (by omega)]
    have ht := Rl_6 hm2 (show k < m.length by omega)
    have hlen := tie_len l (m.getD k 0)
    refine c_tie hr hl (by omega) (by omega) ht _ (fun I' h1 h2 => ?_)
    rw [nI_1]
    refine ih (k + 1) I' _ (by omega) h1 (Rl_fr hr ho hne h2 hm2) (by omega) (fun I'' g1 g2 => ?_)
    refine h I'' ?_ (Fr1_tr h2 g2)
    rw [drop_cons (by omega)]
    exact g1
theorem c_tieAll {o co : Nat} (hr : Rw r cp) (ho : Rw o co) (hne : r ≠ o) {I : Nat → Nat → Int32} {l m : List Nat} (hl : Rl I r l) (hm2 : Rl I o m) (hm : m.length ≤ co) (hc : l.length + m.length ≤ cp) (Q : Mem → Prop) (h : ∀ I', Rl I' r (tieAll l m) → Fr1 r I I' → Q (mm L I' J)) : WV (d + 3) i_Row_appendAllTight [.ref r, .ref o] (mm L I J) Q := by
  rw [E_Row_appendAllTight]
  exact c_tieAll_loop hr ho hne hm (QV Q) m.length 0 I l (by omega) hl hm2 hc h
theorem Rl_0 {I : Nat → Nat → Int32} : Rl (up2 I r 1 0) r [] := ⟨by rw [up2_same]; rfl, fun k hk => absurd hk (Nat.not_lt_zero k), fun x hx => by cases hx⟩
theorem Fr1_0 {I : Nat → Nat → Int32} {v : Int32} : Fr1 r I (up2 I r 1 v) := fun a h1 _ => up2_ne _ _ _ h1
theorem c_becomeTight {o co : Nat} (hr : Rw r cp) (ho : Rw o co) (hne : r ≠ o) {I : Nat → Nat → Int32} {m : List Nat} (hm2 : Rl I o m) (hm : m.length ≤ co) (hc : m.length ≤ cp) (Q : Mem → Prop) (h : ∀ I', Rl I' r (tieAll [] m) → Fr1 r I I' → Q (mm L I' J)) : WV (d + 4) i_Row_becomeTight [.ref r, .ref o] (mm L I J) Q := by
  rw [E_Row_becomeTight, mm_C, if_pos hr.1, mm_sI, mm_C, if_pos hr.1]
  exact c_tieAll hr ho hne Rl_0 (Rl_fr hr ho hne Fr1_0 hm2) hm (by rw [List.length_nil]; omega) _ (fun I' h1 h2 => h I' h1 (Fr1_tr Fr1_0 h2))
theorem c_joined {o co o2 co2 : Nat} (hr : Rw r cp) (ho : Rw o co) (hne : r ≠ o) (ho2 : Rw o2 co2) (hne2 : r ≠ o2) {I : Nat → Nat → Int32} {m m2 : List Nat} (hm : Rl I o m) (hml : m.length ≤ co) (hm2 : Rl I o2 m2) (hml2 : m2.length ≤ co2) (hc : m.length + m2.length ≤ cp) (Q : Mem → Prop) (h : ∀ I', Rl I' r (tieAll (tieAll [] m) m2) → Fr1 r I I' → Q (mm L I' J)) : WV (d + 5) i_Row_becomeJoined [.ref r, .ref o, .ref o2] (mm L I J) Q := by
  rw [E_Row_becomeJoined, mm_C, if_pos hr.1]
  refine c_becomeTight hr ho hne hm hml (by omega) _ (fun I' h1 h2 => ?_)
  rw [mm_C, if_pos hr.1]
  have hlen := tieAll_len m []
  rw [List.length_nil] at hlen
  exact c_tieAll hr ho2 hne2 h1 (Rl_fr hr ho2 hne2 h2 hm2) hml2 (by omega) _ (fun I'' g1 g2 => h I'' g1 (Fr1_tr h2 g2))
theorem take_app {m : List Nat} {k : Nat} (h : k < m.length) : m.take k ++ [m.getD k 0] = m.take (k + 1) := by
  rw [List.getD_eq_getElem?_getD, List.getElem?_eq_getElem h]
  exact (List.take_succ_eq_append_getElem h).symm
theorem c_become_loop {o co : Nat} (hr : Rw r cp) (ho : Rw o co) (hne : r ≠ o) {m : List Nat} (hm : m.length ≤ co) (hcp2 : m.length ≤ cp) (Q : Option Value → Mem → Prop) : ∀ (n k : Nat) (I : Nat → Nat → Int32), k + n = m.length → Rl I r (m.take k) → Rl I o m → (∀ I', Rl I' r m → Fr1 r I I' → Q none (mm L I' J)) →
    Wn (d + 1) i_Row_become 7 [(0, .ref r), (1, .ref o), (2, .int (nI k))] [] (mm L I J) Q := by
  intro n
  have hco := ho.2.2.2.2.2
  have hcp := hr.2.2.2.2.2
  induction n with
  | zero =>
    intro k I hk hl hm2 h
    rw [H_Row_become_7, mm_C, mm_I, if_pos ho.1, hm2.1, if_neg (nI_nlt (by omega) (by omega))]
    have : m.take k = m := List.take_of_length_le (by omega)
    rw [this] at hl
    exact h I hl (Fr1_rf r I)
  | succ n ih =>
    intro k I hk hl hm2 h
    rw [H_Row_become_7, mm_C, mm_I, if_pos ho.1, hm2.1, if_pos (nI_lt (by omega) (by omega)), if_pos ho.1, c_at ho hm2 hm (by omega), mm_C, if_pos hr.1, gt_lt (by omega)]
    have ht := Rl_6 hm2 (show k < m.length by omega)
    have hlt : (m.take k).length = k := by rw [List.length_take]; omega
    refine c_append hr hl (by omega) ht _ (fun I' h1 h2 => ?_)
    rw [take_app (by omega)] at h1
    rw [nI_1]
    exact ih (k + 1) I' (by omega) h1 (Rl_fr hr ho hne h2 hm2) (fun I'' g1 g2 => h I'' g1 (Fr1_tr h2 g2))
theorem c_become {o co : Nat} (hr : Rw r cp) (ho : Rw o co) (hne : r ≠ o) {I : Nat → Nat → Int32} {m : List Nat} (hm2 : Rl I o m) (hm : m.length ≤ co) (hc : m.length ≤ cp) (Q : Mem → Prop) (h : ∀ I', Rl I' r m → Fr1 r I I' → Q (mm L I' J)) : WV (d + 1) i_Row_become [.ref r, .ref o] (mm L I J) Q := by
  rw [E_Row_become, mm_C, if_pos hr.1, mm_sI]
  exact c_become_loop hr ho hne hm hc (QV Q) m.length 0 _ (by omega) Rl_0 (Rl_fr hr ho hne Fr1_0 hm2) (fun I' h1 h2 => h I' h1 (Fr1_tr Fr1_0 h2))
end RowD
end
section
/-! ===== loops as functions of a predicate on places ===== -/
/-- the first place from k on, n places at most, where P is; else k + n -/
def fs (P : Nat → Bool) : Nat → Nat → Nat
  | 0, k => k
  | n + 1, k => if P k = true then k else fs P n (k + 1)
def cnt (P : Nat → Bool) : Nat → Nat → Nat
  | 0, _ => 0
  | n + 1, k => (if P k = true then 1 else 0) + cnt P n (k + 1)
def alB (P : Nat → Bool) : Nat → Nat → Bool
  | 0, _ => true
  | n + 1, k => if P k = true then alB P n (k + 1) else false
def anB (P : Nat → Bool) : Nat → Nat → Bool
  | 0, _ => false
  | n + 1, k => if P k = true then true else anB P n (k + 1)
def bI (b : Bool) : Int32 := if b = true then 1 else 0
theorem fs_t {P : Nat → Bool} {n k : Nat} (h : P k = true) : fs P (n + 1) k = k := by show (if P k = true then k else fs P n (k + 1)) = _; rw [if_pos h]
theorem fs_f {P : Nat → Bool} {n k : Nat} (h : P k = false) : fs P (n + 1) k = fs P n (k + 1) := by show (if P k = true then k else fs P n (k + 1)) = _; rw [if_neg (by rw [h]; decide)]
theorem cnt_t {P : Nat → Bool} {n k : Nat} (h : P k = true) : cnt P (n + 1) k = 1 + cnt P n (k + 1) := by show (if P k = true then 1 else 0) + cnt P n (k + 1) = _; rw [if_pos h]
theorem cnt_f {P : Nat → Bool} {n k : Nat} (h : P k = false) : cnt P (n + 1) k = cnt P n (k + 1) := by show (if P k = true then 1 else 0) + cnt P n (k + 1) = _; rw [if_neg (by rw [h]; decide), Nat.zero_add]
theorem alB_t {P : Nat → Bool} {n k : Nat} (h : P k = true) : alB P (n + 1) k = alB P n (k + 1) := by show (if P k = true then alB P n (k + 1) else false) = _; rw [if_pos h]
theorem alB_f {P : Nat → Bool} {n k : Nat} (h : P k = false) : alB P (n + 1) k = false := by show (if P k = true then alB P n (k + 1) else false) = _; rw [if_neg (by rw [h]; decide)]
theorem anB_t {P : Nat → Bool} {n k : Nat} (h : P k = true) : anB P (n + 1) k = true := by show (if P k = true then true else anB P n (k + 1)) = _; rw [if_pos h]
theorem anB_f {P : Nat → Bool} {n k : Nat} (h : P k = false) : anB P (n + 1) k = anB P n (k + 1) := by show (if P k = true then true else anB P n (k + 1)) = _; rw [if_neg (by rw [h]; decide)]
theorem nb_t {a b : Nat} (h : a ≠ b) : (!(a == b)) = true := by simp [h]
theorem nb_f {a b : Nat} (h : a = b) : (!(a == b)) = false := by simp [h]
theorem eb_t {a b : Nat} (h : a = b) : (a == b) = true := by simp [h]
theorem eb_f {a b : Nat} (h : a ≠ b) : (a == b) = false := by simp [h]
theorem fs_le (P : Nat → Bool) : ∀ n k, k ≤ fs P n k ∧ fs P n k ≤ k + n := by
  intro n
  induction n with
  | zero => intro k; exact ⟨Nat.le_refl _, Nat.le_refl _⟩
  | succ n ih =>
    intro k
    unfold fs
    split
    · omega
    · have := ih (k + 1); omega
theorem cnt_le (P : Nat → Bool) : ∀ n k, cnt P n k ≤ n := by
  intro n
  induction n with
  | zero => intro k; exact Nat.le_refl _
  | succ n ih =>
    intro k
    unfold cnt
    have := ih (k + 1)
    split <;> omega
theorem dif {c : Prop} [Decidable c] {A B : Prop} (h : c) (a : A) : (if c then A else B) := by rw [if_pos h]; exact a
def g0 (l : List Nat) (k : Nat) : Nat := l.getD k 0
section RowE
variable {d r cp o co L : Nat} {I : Nat → Nat → Int32} {J : Nat → Nat → Int64} {l m : List Nat}
theorem c_common_loop (hr : Rw r cp) (ho : Rw o co) (hl : Rl I r l) (hm : Rl I o m) (hc : l.length ≤ cp) (hc2 : m.length ≤ co) {sh : Nat} (h1 : sh ≤ l.length) (h2 : sh ≤ m.length) (Q : Option Value → Mem → Prop) : ∀ n k, k + n = sh →
    (Wn (d + 1) i_Row_commonStart 14 [(0, .ref r), (1, .ref o), (2, .int (nI sh)), (3, .int (nI k))] [] (mm L I J) Q ↔ Q (some (.int (nI (fs (fun j => !(g0 l j == g0 m j)) n k)))) (mm L I J)) := by
  have hcp := hr.2.2.2.2.2
  have hco := ho.2.2.2.2.2
  intro n
  induction n with
  | zero =>
    intro k hk
    rw [H_Row_commonStart_14, if_neg (nI_nlt (by omega) (by omega))]
    unfold fs
    rw [show sh = k by omega]
  | succ n ih =>
    intro k hk
    have a1 := Rl_6 hl (show k < l.length by omega)
    have a2 := Rl_6 hm (show k < m.length by omega)
    rw [H_Row_commonStart_14, if_pos (nI_lt (by omega) (by omega)), mm_C, if_pos hr.1, c_at hr hl hc (by omega), mm_C, if_pos ho.1, c_at ho hm hc2 (by omega), gt_lt (by omega), gt_lt (by omega), nI_1, ih (k + 1) (by omega)]
    by_cases e : l.getD k 0 = m.getD k 0
    · rw [if_pos (by rw [e]), fs_f (nb_f e)]
    · rw [if_neg (fun q => e ((nI_eq (by omega) (by omega)).mp q)), fs_t (nb_t e)]
def lcp (l m : List Nat) : Nat := fs (fun j => !(g0 l j == g0 m j)) (min l.length m.length) 0
theorem lcp_le (l m : List Nat) : lcp l m ≤ l.length ∧ lcp l m ≤ m.length := by
  have := fs_le (fun j => !(g0 l j == g0 m j)) (min l.length m.length) 0
  unfold lcp
  omega
theorem c_common (hr : Rw r cp) (ho : Rw o co) (hl : Rl I r l) (hm : Rl I o m) (hc : l.length ≤ cp) (hc2 : m.length ≤ co) (Q : Int32 → Mem → Prop) : WI (d + 1) i_Row_commonStart [.ref r, .ref o] (mm L I J) Q ↔ Q (nI (lcp l m)) (mm L I J) := by
  have hcp := hr.2.2.2.2.2
  have hco := ho.2.2.2.2.2
  have e : (if nI m.length < nI l.length then nI m.length else nI l.length) = nI (min l.length m.length) := by
    by_cases h : m.length < l.length
    · rw [if_pos (nI_lt h (by omega)), Nat.min_eq_right (by omega)]
    · rw [if_neg (nI_nlt (by omega) (by omega)), Nat.min_eq_left (by omega)]
  rw [E_Row_commonStart, mm_C, mm_I, if_pos hr.1, if_pos ho.1, hl.1, hm.1, e]
  exact c_common_loop hr ho hl hm hc hc2 (Nat.min_le_left _ _) (Nat.min_le_right _ _) (QI Q) (min l.length m.length) 0 (by omega)
theorem fs_all {P : Nat → Bool} : ∀ n k, fs P n k = k + n ↔ ∀ j, k ≤ j → j < k + n → P j = false := by
  intro n
  induction n with
  | zero => intro k; exact ⟨fun _ j h1 h2 => by omega, fun _ => rfl⟩
  | succ n ih =>
    intro k
    unfold fs
    by_cases h : P k = true
    · rw [if_pos h]
      constructor
      · intro q; omega
      · intro q; have := q k (Nat.le_refl _) (by omega); rw [h] at this; cases this
    · rw [if_neg h, show k + (n + 1) = k + 1 + n by omega, ih (k + 1)]
      constructor
      · intro q j h1 h2
        by_cases e : j = k
        · rw [e]; exact Bool.not_eq_true _ |>.mp h
        · exact q j (by omega) h2
      · intro q j h1 h2
        exact q j (by omega) h2
theorem lcp_eq {l m : List Nat} (h : l.length = m.length) : lcp l m = l.length ↔ l = m := by
  unfold lcp
  have := fs_all (P := fun j => !(g0 l j == g0 m j)) (min l.length m.length) 0
  rw [show 0 + min l.length m.length = l.length by omega] at this
  rw [this]
  constructor
  · intro q
    apply List.ext_getElem h
    intro j h1 h2
    have := q j (by omega) h1
    simp [g0, h1, h2] at this
    exact this
  · intro q j _ _
    rw [q]
    simp
theorem c_isLike (hr : Rw r cp) (ho : Rw o co) (hl : Rl I r l) (hm : Rl I o m) (hc : l.length ≤ cp) (hc2 : m.length ≤ co) (Q : Int32 → Mem → Prop) : WI (d + 2) i_Row_isLike [.ref r, .ref o] (mm L I J) Q ↔ Q (bI (decide (l = m))) (mm L I J) := by
  have hcp := hr.2.2.2.2.2
  have hco := ho.2.2.2.2.2
  rw [E_Row_isLike, mm_C, mm_I, if_pos hr.1, if_pos ho.1, hl.1, hm.1]
  by_cases e : l.length = m.length
  · have hle := lcp_le l m
    rw [if_pos (by rw [e]), if_pos hr.1, c_common hr ho hl hm hc hc2, mm_C, if_pos hr.1, mm_I, hl.1]
    by_cases e2 : l = m
    · rw [if_pos (by rw [(lcp_eq e).mpr e2])]
      simp [bI, e2]
    · rw [if_neg (fun q => e2 ((lcp_eq e).mp ((nI_eq (by omega) (by omega)).mp q)))]
      simp [bI, e2]
  · rw [if_neg (fun q => e ((nI_eq (by omega) (by omega)).mp q))]
    have : ¬ l = m := fun q => e (by rw [q])
    simp [bI, this]
theorem c_compare (M : Mem) (Q : Int32 → Mem → Prop) (x y : Int32) : WI d i_JInt_compare [.int x, .int y] M Q ↔ Q (if x < y then -1 else if x = y then 0 else 1) M := by
  rw [E_JInt_compare]
  by_cases h : x < y
  · rw [if_pos h, if_pos h]
  · rw [if_neg h, if_neg h]
    by_cases h2 : x = y
    · rw [if_pos h2, if_pos h2]
    · rw [if_neg h2, if_neg h2]
/-- -1, 0, 1: by length, then by turns -/
def cmpR (l m : List Nat) : Int32 := if l.length = m.length then (if gt l (lcp l m) < gt m (lcp l m) then -1 else if gt l (lcp l m) = gt m (lcp l m) then 0 else 1) else (if l.length < m.length then -1 else 1)
theorem c_cmpR (hr : Rw r cp) (ho : Rw o co) (hl : Rl I r l) (hm : Rl I o m) (hc : l.length ≤ cp) (hc2 : m.length ≤ co) (Q : Int32 → Mem → Prop) : WI (d + 2) i_Row_compareWith [.ref r, .ref o] (mm L I J) Q ↔ Q (cmpR l m) (mm L I J) := by
  have hcp := hr.2.2.2.2.2
  have hco := ho.2.2.2.2.2
  have hle := lcp_le l m
  rw [E_Row_compareWith, mm_C, mm_I, if_pos hr.1, if_pos ho.1, hl.1, hm.1]
  unfold cmpR
  by_cases e : l.length = m.length
  · rw [if_pos (by rw [e]), if_pos hr.1, c_common hr ho hl hm hc hc2, mm_C, if_pos hr.1, c_at hr hl hc (by omega), mm_C, if_pos ho.1, c_at ho hm hc2 (by omega), c_compare, if_pos e]
  · rw [if_neg (fun q => e ((nI_eq (by omega) (by omega)).mp q)), if_pos hr.1, if_pos ho.1, c_compare, if_neg e]
    by_cases h : l.length < m.length
    · rw [if_pos (nI_lt h (by omega)), if_pos h]
    · rw [if_neg (nI_nlt (by omega) (by omega)), if_neg (fun q => e ((nI_eq (by omega) (by omega)).mp q)), if_neg h]
theorem c_diff_loop (hr : Rw r cp) (ho : Rw o co) (hl : Rl I r l) (hm : Rl I o m) (hc : l.length ≤ cp) (hc2 : m.length ≤ co) (he : l.length = m.length) (Q : Option Value → Mem → Prop) : ∀ n k c, k + n = l.length → c ≤ k →
    (Wn (d + 1) i_Row_differences 4 [(0, .ref r), (1, .ref o), (2, .int (nI c)), (3, .int (nI k))] [] (mm L I J) Q ↔ Q (some (.int (nI (c + cnt (fun j => !(g0 l j == g0 m j)) n k)))) (mm L I J)) := by
  have hcp := hr.2.2.2.2.2
  have hco := ho.2.2.2.2.2
  intro n
  induction n with
  | zero =>
    intro k c hk hck
    rw [H_Row_differences_4, mm_C, mm_I, if_pos hr.1, hl.1, if_neg (nI_nlt (by omega) (by omega))]
    rfl
  | succ n ih =>
    intro k c hk hck
    have a1 := Rl_6 hl (show k < l.length by omega)
    have a2 := Rl_6 hm (show k < m.length by omega)
    rw [H_Row_differences_4, mm_C, mm_I, if_pos hr.1, hl.1, if_pos (nI_lt (by omega) (by omega)), if_pos hr.1, c_at hr hl hc (by omega), mm_C, if_pos ho.1, c_at ho hm hc2 (by omega), gt_lt (by omega), gt_lt (by omega), nI_1, nI_1, ih (k + 1) c (by omega) (by omega), ih (k + 1) (c + 1) (by omega) (by omega)]
    by_cases e : l.getD k 0 = m.getD k 0
    · rw [if_pos (by rw [e]), cnt_f (nb_f e)]
    · rw [if_neg (fun q => e ((nI_eq (by omega) (by omega)).mp q)), cnt_t (nb_t e), Nat.add_assoc]
def difs (l m : List Nat) : Nat := cnt (fun j => !(g0 l j == g0 m j)) l.length 0
theorem c_diff (hr : Rw r cp) (ho : Rw o co) (hl : Rl I r l) (hm : Rl I o m) (hc : l.length ≤ cp) (hc2 : m.length ≤ co) (he : l.length = m.length) (Q : Int32 → Mem → Prop) : WI (d + 1) i_Row_differences [.ref r, .ref o] (mm L I J) Q ↔ Q (nI (difs l m)) (mm L I J) := by
  rw [E_Row_differences]
  have := c_diff_loop (d := d) (L := L) (J := J) hr ho hl hm hc hc2 he (QI Q) l.length 0 0 (by omega) (by omega)
  rw [Nat.zero_add] at this
  exact this
end RowE
end
section
theorem nI_m1 {k : Nat} (h : 0 < k) : nI k - 1 = nI (k - 1) := by
  have := nI_pred (k - 1)
  rw [show k - 1 + 1 = k by omega] at this
  exact this
section RowF
variable {d r cp o co L : Nat} {I : Nat → Nat → Int32} {J : Nat → Nat → Int64} {l m : List Nat}
def tghP (l : List Nat) : Nat → Bool := fun k => !(g0 l k == g0 l (k - 1) ^^^ 1)
def tghB (l : List Nat) : Bool := alB (tghP l) (l.length - 1) 1
theorem c_isTight_loop (hr : Rw r cp) (hl : Rl I r l) (hc : l.length ≤ cp) (Q : Option Value → Mem → Prop) : ∀ n k, 1 ≤ k → (k + n = l.length ∨ (n = 0 ∧ l.length ≤ k ∧ k ≤ 80)) →
    (Wn (d + 1) i_Row_isTight 2 [(0, .ref r), (1, .int (nI k))] [] (mm L I J) Q ↔ Q (some (.int (bI (alB (tghP l) n k)))) (mm L I J)) := by
  have hcp := hr.2.2.2.2.2
  intro n
  induction n with
  | zero =>
    intro k h1 hk
    rw [H_Row_isTight_2, mm_C, mm_I, if_pos hr.1, hl.1, if_neg (nI_nlt (by omega) (by omega))]
    rfl
  | succ n ih =>
    intro k h1 hk
    have a1 := Rl_6 hl (show k < l.length by omega)
    have a2 := Rl_6 hl (show k - 1 < l.length by omega)
    have a3 := x1_lt a2
    rw [H_Row_isTight_2, mm_C, mm_I, if_pos hr.1, hl.1, if_pos (nI_lt (by omega) (by omega)), if_pos hr.1, c_at hr hl hc (by omega), mm_C, if_pos hr.1, nI_m1 (by omega), c_at hr hl hc (by omega), gt_lt (by omega), gt_lt (by omega), c_undoing a2, nI_1, ih (k + 1) (by omega) (by omega)]
    by_cases e : l.getD k 0 = l.getD (k - 1) 0 ^^^ 1
    · rw [if_pos (by rw [e]), alB_f (nb_f e)]
      rfl
    · rw [if_neg (fun q => e ((nI_eq (by omega) (by omega)).mp q)), alB_t (nb_t e)]
theorem c_isTight (hr : Rw r cp) (hl : Rl I r l) (hc : l.length ≤ cp) (Q : Int32 → Mem → Prop) : WI (d + 1) i_Row_isTight [.ref r] (mm L I J) Q ↔ Q (bI (tghB l)) (mm L I J) := by
  rw [E_Row_isTight]
  exact c_isTight_loop hr hl hc (QI Q) (l.length - 1) 1 (by omega) (by omega)
def repP (l : List Nat) (z : Nat) : Nat → Bool := fun k => g0 l k == g0 l (k - z)
def repB (l : List Nat) (z : Nat) : Bool := alB (repP l z) (l.length - z) z
theorem c_rep_loop (hr : Rw r cp) (hl : Rl I r l) (hc : l.length ≤ cp) {z : Nat} (hz : z ≤ 80) (Q : Option Value → Mem → Prop) : ∀ n k, z ≤ k → (k + n = l.length ∨ (n = 0 ∧ l.length ≤ k ∧ k ≤ 80)) →
    (Wn (d + 1) i_Row_repeats 2 [(0, .ref r), (1, .int (nI z)), (2, .int (nI k))] [] (mm L I J) Q ↔ Q (some (.int (bI (alB (repP l z) n k)))) (mm L I J)) := by
  have hcp := hr.2.2.2.2.2
  intro n
  induction n with
  | zero =>
    intro k h1 hk
    rw [H_Row_repeats_2, mm_C, mm_I, if_pos hr.1, hl.1, if_neg (nI_nlt (by omega) (by omega))]
    rfl
  | succ n ih =>
    intro k h1 hk
    have a1 := Rl_6 hl (show k < l.length by omega)
    have a2 := Rl_6 hl (show k - z < l.length by omega)
    rw [H_Row_repeats_2, mm_C, mm_I, if_pos hr.1, hl.1, if_pos (nI_lt (by omega) (by omega)), if_pos hr.1, c_at hr hl hc (by omega), mm_C, if_pos hr.1, pk_sub h1, c_at hr hl hc (by omega), gt_lt (by omega), gt_lt (by omega), nI_1, ih (k + 1) (by omega) (by omega)]
    by_cases e : l.getD k 0 = l.getD (k - z) 0
    · rw [if_pos (by rw [e]), alB_t (P := repP l z) (eb_t e)]
    · rw [if_neg (fun q => e ((nI_eq (by omega) (by omega)).mp q)), alB_f (P := repP l z) (eb_f e)]
      rfl
theorem c_rep (hr : Rw r cp) (hl : Rl I r l) (hc : l.length ≤ cp) {z : Nat} (hz : z ≤ 80) (Q : Int32 → Mem → Prop) : WI (d + 1) i_Row_repeats [.ref r, .int (nI z)] (mm L I J) Q ↔ Q (bI (repB l z)) (mm L I J) := by
  rw [E_Row_repeats]
  exact c_rep_loop hr hl hc hz (QI Q) (l.length - z) z (by omega) (by omega)
def rooP (l : List Nat) : Nat → Bool := fun z => (l.length % z == 0) && repB l z
def roo (l : List Nat) : Nat := if l.length = 0 then 0 else fs (rooP l) (l.length - 1) 1
theorem bI_0 {b : Bool} : bI b = 0 ↔ b = false := by cases b <;> simp [bI]
theorem nI_z {a : Nat} (h : a < 2 ^ 31) : nI a = 0 ↔ a = 0 := by
  have := nI_eq h (show 0 < 2 ^ 31 by omega)
  rw [nI_0] at this
  exact this
theorem c_root_loop (hr : Rw r cp) (hl : Rl I r l) (hc : l.length ≤ cp) (Q : Option Value → Mem → Prop) : ∀ n k, 1 ≤ k → k + n = l.length →
    (Wn (d + 2) i_Row_shortestRepeated 2 [(0, .ref r), (1, .int (nI k))] [] (mm L I J) Q ↔ Q (some (.int (nI (fs (rooP l) n k)))) (mm L I J)) := by
  have hcp := hr.2.2.2.2.2
  intro n
  induction n with
  | zero =>
    intro k h1 hk
    rw [H_Row_shortestRepeated_2, mm_C, mm_I, if_pos hr.1, hl.1, if_neg (nI_nlt (by omega) (by omega)), if_pos hr.1]
    rw [show l.length = k by omega]
    rfl
  | succ n ih =>
    intro k h1 hk
    rw [H_Row_shortestRepeated_2, mm_C, mm_I, if_pos hr.1, hl.1, if_pos (nI_lt (by omega) (by omega)), if_pos hr.1, if_neg (nI_ne0 (by omega) (by omega)), pk_rem (by omega) (by omega) (by omega), nI_1, ih (k + 1) (by omega) (by omega)]
    have hlt : l.length % k < k := Nat.mod_lt _ (by omega)
    by_cases e : l.length % k = 0
    · rw [if_pos ((nI_z (by omega)).mpr e), if_pos hr.1, c_rep hr hl hc (by omega)]
      by_cases e2 : repB l k = true
      · rw [if_neg (fun q => by rw [bI_0.mp q] at e2; cases e2), fs_t (by unfold rooP; rw [eb_t e, e2]; rfl)]
      · have e2 : repB l k = false := by simpa using e2
        rw [if_pos (bI_0.mpr e2), ih (k + 1) (by omega) (by omega), fs_f (by unfold rooP; rw [e2, Bool.and_false])]
    · rw [if_neg (fun q => e ((nI_z (by omega)).mp q)), fs_f (by unfold rooP; rw [eb_f e]; rfl)]
theorem c_root (hr : Rw r cp) (hl : Rl I r l) (hc : l.length ≤ cp) (Q : Int32 → Mem → Prop) : WI (d + 2) i_Row_shortestRepeated [.ref r] (mm L I J) Q ↔ Q (nI (roo l)) (mm L I J) := by
  have hcp := hr.2.2.2.2.2
  rw [E_Row_shortestRepeated]
  unfold roo
  by_cases h0 : l.length = 0
  · rw [if_pos h0]
    have h1 : nI l.length = 0 := by rw [h0]; rfl
    show Wn (d + 2) i_Row_shortestRepeated 2 [(0, .ref r), (1, .int 1)] [] (mm L I J) (QI Q) ↔ _
    rw [H_Row_shortestRepeated_2, mm_C, mm_I, if_pos hr.1, hl.1, h1, if_neg (by decide), if_pos hr.1]
    rfl
  · rw [if_neg h0]
    exact c_root_loop hr hl hc (QI Q) (l.length - 1) 1 (by omega) (by omega)
def losP (l : List Nat) : Nat → Bool := fun k => !(g0 l k == g0 l (l.length - 1 - k) ^^^ 1)
def los (l : List Nat) : Nat := fs (losP l) (l.length / 2) 0
theorem los_le (l : List Nat) : 2 * los l ≤ l.length := by
  have := fs_le (losP l) (l.length / 2) 0
  unfold los
  omega
theorem c_lost_loop (hr : Rw r cp) (hl : Rl I r l) (hc : l.length ≤ cp) (Q : Option Value → Mem → Prop) : ∀ n k, k + n = l.length / 2 →
    (Wn (d + 1) i_Row_lostByBending 4 [(0, .ref r), (1, .int (nI k)), (2, .int (nI k))] [] (mm L I J) Q ↔ Q (some (.int (nI (fs (losP l) n k)))) (mm L I J)) := by
  have hcp := hr.2.2.2.2.2
  have e2 : ∀ k : Nat, (2 : Int32) * nI k + 1 = nI (2 * k + 1) := fun k => by
    have : (2 : Int32) = nI 2 := rfl
    rw [this, pk_mul, nI_1]
  intro n
  induction n with
  | zero =>
    intro k hk
    rw [H_Row_lostByBending_4, mm_C, mm_I, if_pos hr.1, hl.1, e2, if_neg (nI_nlt (by omega) (by omega))]
    rfl
  | succ n ih =>
    intro k hk
    have a1 := Rl_6 hl (show k < l.length by omega)
    have a2 := Rl_6 hl (show l.length - 1 - k < l.length by omega)
    have a3 := x1_lt a2
    rw [H_Row_lostByBending_4, mm_C, mm_I, if_pos hr.1, hl.1, e2, if_pos (nI_lt (by omega) (by omega)), if_pos hr.1, c_at hr hl hc (by omega), mm_C, if_pos hr.1, if_pos hr.1, mm_I, hl.1, nI_m1 (by omega), pk_sub (by omega), c_at hr hl hc (by omega), gt_lt (by omega), gt_lt (by omega), c_undoing a2, nI_1, ih (k + 1) (by omega)]
    by_cases e : l.getD k 0 = l.getD (l.length - 1 - k) 0 ^^^ 1
    · rw [if_pos (by rw [e]), fs_f (nb_f e)]
    · rw [if_neg (fun q => e ((nI_eq (by omega) (by omega)).mp q)), fs_t (nb_t e)]
theorem c_lost (hr : Rw r cp) (hl : Rl I r l) (hc : l.length ≤ cp) (Q : Int32 → Mem → Prop) : WI (d + 1) i_Row_lostByBending [.ref r] (mm L I J) Q ↔ Q (nI (los l)) (mm L I J) := by
  rw [E_Row_lostByBending]
  exact c_lost_loop hr hl hc (QI Q) (l.length / 2) 0 (by omega)
def rbP (l m : List Nat) (b a c z : Nat) : Nat → Bool := fun k => g0 l (a + (if b + k < z then b + k else b + k - z)) == g0 m (c + k)
theorem c_rb_loop (hr : Rw r cp) (ho : Rw o co) (hl : Rl I r l) (hm : Rl I o m) (hc : l.length ≤ cp) (hc2 : m.length ≤ co) {b a c z : Nat} (hb : b < z) (ha : a + z ≤ l.length) (hcz : c + z ≤ m.length) (Q : Option Value → Mem → Prop) : ∀ n k, k + n = z →
    (Wn (d + 1) i_Row_isRingBegunAt 3 [(0, .ref r), (1, .int (nI b)), (2, .ref o), (3, .int (nI a)), (4, .int (nI c)), (5, .int (nI z)), (6, .int (nI k))] [] (mm L I J) Q ↔ Q (some (.int (bI (alB (rbP l m b a c z) n k)))) (mm L I J)) := by
  have hcp := hr.2.2.2.2.2
  have hco := ho.2.2.2.2.2
  intro n
  induction n with
  | zero =>
    intro k hk
    rw [H_Row_isRingBegunAt_3, if_neg (nI_nlt (by omega) (by omega))]
    rfl
  | succ n ih =>
    intro k hk
    have a2 := Rl_6 hm (show c + k < m.length by omega)
    rw [H_Row_isRingBegunAt_3, if_pos (nI_lt (by omega) (by omega)), nI_add, mm_C, nI_add, nI_1]
    by_cases h : b + k < z
    · have a1 := Rl_6 hl (show a + (b + k) < l.length by omega)
      rw [if_pos (nI_lt h (by omega)), if_pos hr.1, nI_add, c_at hr hl hc (by omega), mm_C, if_pos ho.1, c_at ho hm hc2 (by omega), gt_lt (by omega), gt_lt (by omega), ih (k + 1) (by omega)]
      by_cases e : l.getD (a + (b + k)) 0 = m.getD (c + k) 0
      · rw [if_pos (by rw [e]), alB_t (by unfold rbP; rw [if_pos h]; exact eb_t e)]
      · rw [if_neg (fun q => e ((nI_eq (by omega) (by omega)).mp q)), alB_f (by unfold rbP; rw [if_pos h]; exact eb_f e)]
        rfl
    · have a1 := Rl_6 hl (show a + (b + k - z) < l.length by omega)
      rw [if_neg (nI_nlt (by omega) (by omega)), if_pos hr.1, pk_sub (by omega), nI_add, c_at hr hl hc (by omega), mm_C, if_pos ho.1, nI_add, c_at ho hm hc2 (by omega), gt_lt (by omega), gt_lt (by omega), ih (k + 1) (by omega)]
      by_cases e : l.getD (a + (b + k - z)) 0 = m.getD (c + k) 0
      · rw [if_pos (by rw [e]), alB_t (by unfold rbP; rw [if_neg h]; exact eb_t e)]
      · rw [if_neg (fun q => e ((nI_eq (by omega) (by omega)).mp q)), alB_f (by unfold rbP; rw [if_neg h]; exact eb_f e)]
        rfl
theorem c_rb (hr : Rw r cp) (ho : Rw o co) (hl : Rl I r l) (hm : Rl I o m) (hc : l.length ≤ cp) (hc2 : m.length ≤ co) {b a c z : Nat} (hb : b < z) (ha : a + z ≤ l.length) (hcz : c + z ≤ m.length) (Q : Int32 → Mem → Prop) : WI (d + 1) i_Row_isRingBegunAt [.ref r, .int (nI b), .ref o, .int (nI a), .int (nI c), .int (nI z)] (mm L I J) Q ↔ Q (bI (alB (rbP l m b a c z) z 0)) (mm L I J) := by
  rw [E_Row_isRingBegunAt]
  exact c_rb_loop hr ho hl hm hc hc2 hb ha hcz (QI Q) z 0 (by omega)
theorem c_ring_loop (hr : Rw r cp) (ho : Rw o co) (hl : Rl I r l) (hm : Rl I o m) (hc : l.length ≤ cp) (hc2 : m.length ≤ co) {a c z : Nat} (ha : a + z ≤ l.length) (hcz : c + z ≤ m.length) (Q : Option Value → Mem → Prop) : ∀ n k, k + n = z →
    (Wn (d + 2) i_Row_isRingOf 38 [(0, .ref r), (1, .ref o), (2, .int (nI a)), (3, .int (nI c)), (4, .int (nI z)), (5, .int (nI k))] [] (mm L I J) Q ↔ Q (some (.int (bI (anB (fun b => alB (rbP l m b a c z) z 0) n k || (z == 0))))) (mm L I J)) := by
  have hcp := hr.2.2.2.2.2
  have hco := ho.2.2.2.2.2
  intro n
  induction n with
  | zero =>
    intro k hk
    rw [H_Row_isRingOf_38, if_neg (nI_nlt (by omega) (by omega))]
    by_cases e : z = 0
    · rw [if_pos ((nI_z (by omega)).mpr e)]
      simp [anB, bI, e]
    · rw [if_neg (fun q => e ((nI_z (by omega)).mp q))]
      simp [anB, bI, e]
  | succ n ih =>
    intro k hk
    rw [H_Row_isRingOf_38, if_pos (nI_lt (by omega) (by omega)), mm_C, if_pos hr.1, c_rb hr ho hl hm hc hc2 (by omega) ha hcz, nI_1, ih (k + 1) (by omega)]
    by_cases e : alB (rbP l m k a c z) z 0 = true
    · rw [if_neg (fun q => by rw [bI_0.mp q] at e; cases e), anB_t (P := fun b => alB (rbP l m b a c z) z 0) e]
      rfl
    · have e : alB (rbP l m k a c z) z 0 = false := by simpa using e
      rw [if_pos (bI_0.mpr e), anB_f (P := fun b => alB (rbP l m b a c z) z 0) e]
def rngB (l m : List Nat) : Bool := (l.length - 2 * los l == m.length - 2 * los m) && (anB (fun b => alB (rbP l m b (los l) (los m) (l.length - 2 * los l)) (l.length - 2 * los l) 0) (l.length - 2 * los l) 0 || (l.length - 2 * los l == 0))
theorem c_ring (hr : Rw r cp) (ho : Rw o co) (hl : Rl I r l) (hm : Rl I o m) (hc : l.length ≤ cp) (hc2 : m.length ≤ co) (Q : Int32 → Mem → Prop) : WI (d + 2) i_Row_isRingOf [.ref r, .ref o] (mm L I J) Q ↔ Q (bI (rngB l m)) (mm L I J) := by
  have hcp := hr.2.2.2.2.2
  have hco := ho.2.2.2.2.2
  have h1 := los_le l
  have h2 := los_le m
  have e2 : ∀ k : Nat, (2 : Int32) * nI k = nI (2 * k) := fun k => pk_mul 2 k
  rw [E_Row_isRingOf, mm_C, if_pos hr.1, c_lost hr hl hc, mm_C, if_pos ho.1, c_lost ho hm hc2, mm_C, if_pos hr.1, if_pos ho.1, mm_I, hl.1, hm.1, e2, e2, pk_sub h1, pk_sub h2]
  unfold rngB
  by_cases e : l.length - 2 * los l = m.length - 2 * los m
  · rw [if_pos (by rw [e]), eb_t e, Bool.true_and]
    exact c_ring_loop hr ho hl hm hc hc2 (by omega) (by omega) (QI Q) (l.length - 2 * los l) 0 (by omega)
  · rw [if_neg (fun q => e ((nI_eq (by omega) (by omega)).mp q)), eb_f e, Bool.false_and]
    rfl
end RowF
end
section
/-! ===== tight rows ===== -/
def Tg (l : List Nat) : Prop := ∀ k, k + 1 < l.length → l.getD (k + 1) 0 ≠ l.getD k 0 ^^^ 1
theorem Tg_nil : Tg [] := fun k h => absurd h (Nat.not_lt_zero _)
theorem Tg_drop {l : List Nat} (h : Tg l) : Tg l.dropLast := by
  intro k hk
  rw [List.length_dropLast] at hk
  rw [getD_drop (by omega), getD_drop (by omega)]
  exact h k (by omega)
theorem x1_sw {a b : Nat} (h : a = b ^^^ 1) : b = a ^^^ 1 := by rw [h, x1_x1]
theorem Tg_tie {l : List Nat} (h : Tg l) (t : Nat) : Tg (tie l t) := by
  unfold tie
  split
  · exact Tg_drop h
  · rename_i hn
    intro k hk
    rw [List.length_append, List.length_singleton] at hk
    by_cases e : k + 1 < l.length
    · rw [getD_app e, getD_app (by omega)]
      exact h k e
    · have e1 : k + 1 = l.length := by omega
      rw [e1, getD_end, getD_app (by omega)]
      intro q
      apply hn
      rw [last_getD (by omega), show l.length - 1 = k by omega, x1_sw q]
theorem tie_tie {l : List Nat} (h : Tg l) (t : Nat) : tie (tie l t) (t ^^^ 1) = l := by
  by_cases c : l.getLast? = some (t ^^^ 1)
  · have e : tie l t = l.dropLast := by unfold tie; rw [if_pos c]
    rw [e]
    unfold tie
    have hl0 : 0 < l.length := by
      cases l with
      | nil => cases c
      | cons _ _ => exact Nat.succ_pos _
    rw [last_getD hl0] at c
    have c := Option.some.inj c
    rw [if_neg ?_]
    · have h1 : l.getLast (List.ne_nil_of_length_pos hl0) = t ^^^ 1 := by
        rw [← c, List.getLast_eq_getElem, List.getD_eq_getElem?_getD, List.getElem?_eq_getElem (by omega)]
        rfl
      rw [← h1]
      exact List.dropLast_concat_getLast _
    · intro q
      rw [x1_x1] at q
      by_cases h2 : 0 < l.dropLast.length
      · rw [last_getD h2, List.length_dropLast, getD_drop (by rw [List.length_dropLast] at h2; omega)] at q
        rw [List.length_dropLast] at h2
        have q := Option.some.inj q
        have := h (l.length - 1 - 1) (by omega)
        rw [show l.length - 1 - 1 + 1 = l.length - 1 by omega, q, c] at this
        exact this rfl
      · have h3 : l.dropLast = [] := List.eq_nil_of_length_eq_zero (by omega)
        rw [h3] at q
        cases q
  · have e : tie l t = l ++ [t] := by unfold tie; rw [if_neg c]
    rw [e]
    unfold tie
    rw [if_pos (by rw [x1_x1, List.getLast?_concat]), List.dropLast_concat]
theorem tieAll_app (l p s : List Nat) : tieAll l (p ++ s) = tieAll (tieAll l p) s := by unfold tieAll; rw [List.foldl_append]
theorem Tg_tieAll : ∀ (ts l : List Nat), Tg l → Tg (tieAll l ts) := by
  intro ts
  induction ts with
  | nil => intro l h; exact h
  | cons t r ih => intro l h; exact ih _ (Tg_tie h t)
theorem tieAll_take {l m : List Nat} {j : Nat} (h : j < m.length) : tieAll l (m.take (j + 1)) = tie (tieAll l (m.take j)) (m.getD j 0) := by
  rw [← take_app h, tieAll_app]
  rfl
theorem tie_ap {l : List Nat} {t : Nat} (h : l.getLast? ≠ some (t ^^^ 1)) : tie l t = l ++ [t] := by unfold tie; rw [if_neg h]
theorem tieAll_take_self {m : List Nat} (h : Tg m) : ∀ j, j ≤ m.length → tieAll [] (m.take j) = m.take j := by
  intro j
  induction j with
  | zero => intro _; rfl
  | succ j ih =>
    intro hj
    rw [tieAll_take (by omega), ih (by omega), tie_ap ?_, take_app (by omega)]
    intro q
    by_cases h0 : 0 < j
    · have hl : (m.take j).length = j := by rw [List.length_take]; omega
      rw [last_getD (by omega), hl] at q
      have q := Option.some.inj q
      have e : (m.take j).getD (j - 1) 0 = m.getD (j - 1) 0 := by
        rw [List.getD_eq_getElem?_getD, List.getD_eq_getElem?_getD, List.getElem?_take, if_pos (by omega)]
      rw [e] at q
      have := h (j - 1) (by omega)
      rw [show j - 1 + 1 = j by omega] at this
      exact this (x1_sw q)
    · have : j = 0 := by omega
      subst this
      cases q
theorem tieAll_self {m : List Nat} (h : Tg m) : tieAll [] m = m := by
  have := tieAll_take_self h m.length (Nat.le_refl _)
  rw [List.take_length] at this
  exact this
theorem tieAll_lt_len (l m : List Nat) (j : Nat) : (tieAll l (m.take j)).length ≤ l.length + m.length := by
  have h1 := tieAll_len (m.take j) l
  rw [List.length_take] at h1
  omega
theorem nI_dec (k : Nat) : nI (k + 1) + (-1) = nI k := by
  have := nI_pred k
  rw [← this]
  exact (Int32.sub_eq_add_neg _ _).symm
theorem nI_nn {k : Nat} (h : k < 2 ^ 31) : ¬ nI k < 0 := nI_pos h
section RowG
variable {d r cp o co L : Nat} {J : Nat → Nat → Int64}
theorem c_undoAll_loop (hr : Rw r cp) (ho : Rw o co) (hne : r ≠ o) {l m : List Nat} (ht : Tg l) (hm : m.length ≤ co) (hc : l.length + m.length ≤ cp) (Q : Option Value → Mem → Prop) : ∀ (k : Nat) (I : Nat → Nat → Int32), k ≤ m.length → Rl I r (tieAll l (m.take k)) → Rl I o m → (∀ I', Rl I' r l → Fr1 r I I' → Q none (mm L I' J)) →
    Wn (d + 3) i_Row_appendAllUndoing 7 [(0, .ref r), (1, .ref o), (2, .int (nI k + (-1)))] [] (mm L I J) Q := by
  have hco := ho.2.2.2.2.2
  have hcp := hr.2.2.2.2.2
  intro k
  induction k with
  | zero =>
    intro I hk hl hm2 h
    rw [H_Row_appendAllUndoing_7, if_pos (by decide)]
    exact h I hl (Fr1_rf r I)
  | succ k ih =>
    intro I hk hl hm2 h
    have h6 := Rl_6 hm2 (show k < m.length by omega)
    have hb := tie_tie (Tg_tieAll (m.take k) l ht) (m.getD k 0)
    rw [← tieAll_take (by omega)] at hb
    have hn1 := tieAll_lt_len l m (k + 1)
    have hn2 := tieAll_lt_len l m k
    rw [nI_dec, H_Row_appendAllUndoing_7, if_neg (nI_nn (by omega)), mm_C, if_pos ho.1, c_at ho hm2 hm (by omega), gt_lt (by omega), c_undoing h6, mm_C, if_pos hr.1]
    refine c_tie hr hl (by omega) (by rw [hb]; omega) (x1_lt h6) _ (fun I' h1 h2 => ?_)
    rw [hb] at h1
    exact ih I' (by omega) h1 (Rl_fr hr ho hne h2 hm2) (fun I'' g1 g2 => h I'' g1 (Fr1_tr h2 g2))
theorem c_undoAll (hr : Rw r cp) (ho : Rw o co) (hne : r ≠ o) {l m : List Nat} (ht : Tg l) (hm : m.length ≤ co) (hc : l.length + m.length ≤ cp) {I : Nat → Nat → Int32} (hl : Rl I r (tieAll l m)) (hm2 : Rl I o m) (Q : Mem → Prop) (h : ∀ I', Rl I' r l → Fr1 r I I' → Q (mm L I' J)) : WV (d + 3) i_Row_appendAllUndoing [.ref r, .ref o] (mm L I J) Q := by
  rw [E_Row_appendAllUndoing, mm_C, if_pos ho.1, mm_I, hm2.1]
  have e : nI m.length - 1 = nI m.length + (-1) := by rw [Int32.sub_eq_add_neg]
  rw [e]
  refine c_undoAll_loop hr ho hne ht hm hc (QV Q) m.length I (Nat.le_refl _) ?_ hm2 h
  rw [List.take_length]
  exact hl
end RowG
/-! ===== camps ===== -/
def FrR (lo hi : Nat) (I I' : Nat → Nat → Int32) : Prop := ∀ a, (a < lo ∨ hi ≤ a) → I' a = I a
theorem FrR_rf (lo hi : Nat) (I : Nat → Nat → Int32) : FrR lo hi I I := fun _ _ => rfl
theorem FrR_tr {lo hi : Nat} {I I' I'' : Nat → Nat → Int32} (h : FrR lo hi I I') (h2 : FrR lo hi I' I'') : FrR lo hi I I'' := fun a h1 => (h2 a h1).trans (h a h1)
theorem FrR_1 {lo hi r : Nat} {I I' : Nat → Nat → Int32} (h : Fr1 r I I') (h1 : lo ≤ r) (h2 : r + 1 < hi) : FrR lo hi I I' := fun a q => h a (by omega) (by omega)
theorem FrR_w {lo hi lo2 hi2 : Nat} {I I' : Nat → Nat → Int32} (h : FrR lo hi I I') (h1 : lo2 ≤ lo) (h2 : hi ≤ hi2) : FrR lo2 hi2 I I' := fun a q => h a (by omega)
theorem FrR_u {lo hi a k : Nat} {v : Int32} {I : Nat → Nat → Int32} (h1 : lo ≤ a) (h2 : a < hi) : FrR lo hi I (up2 I a k v) := fun b q => up2_ne _ _ _ (by omega)
/-- c is a camp -/
def Cw (c : Nat) : Prop := c < 240 ∧ CL c = 0 ∧ RR c 0 = c + 1 ∧ CL (c + 1) = 14 ∧ lnL.getD (c + 1) 0 = 6 ∧ RR c 1 = c + 2 ∧ Rw (c + 2) 12 ∧ ∀ h, h < 6 → RR (c + 1) h = c + 4 + 2 * h ∧ Rw (c + 4 + 2 * h) 12
theorem Cw_3 : Cw 3 := by unfold Cw Rw; decide
theorem Cw_216 : Cw 216 := by unfold Cw Rw; decide
theorem Cw_232 : Cw 232 := by unfold Cw Rw; decide
theorem Cw_p : ∀ i, i < 10 → Cw (21 + 16 * i) := by unfold Cw Rw; decide
def nmO (ns : List (List Nat)) (h : Nat) : List Nat := ns.getD h []
/-- the camp c holds the names ns and the contract ct -/
def Cl (I : Nat → Nat → Int32) (c : Nat) (ns : List (List Nat)) (ct : List Nat) : Prop := I c 2 = nI ns.length ∧ ns.length ≤ 6 ∧ (∀ h, h < ns.length → Rl I (c + 4 + 2 * h) (nmO ns h) ∧ (nmO ns h).length ≤ 12) ∧ Rl I (c + 2) ct ∧ ct.length ≤ 12
theorem Cl_fr {I I' : Nat → Nat → Int32} {c lo hi : Nat} {ns : List (List Nat)} {ct : List Nat} (hF : FrR lo hi I I') (hc : c + 16 ≤ lo ∨ hi ≤ c) (h : Cl I c ns ct) : Cl I' c ns ct := by
  obtain ⟨h1, h2, h3, h4, h5⟩ := h
  have k1 : ∀ a, c ≤ a → a < c + 16 → I' a = I a := fun a q1 q2 => hF a (by omega)
  refine ⟨by rw [k1 c (by omega) (by omega)]; exact h1, h2, fun h hh => ⟨Rl_keep (h3 h hh).1 (k1 _ (by omega) (by omega)) (k1 _ (by omega) (by omega)), (h3 h hh).2⟩, Rl_keep h4 (k1 _ (by omega) (by omega)) (k1 _ (by omega) (by omega)), h5⟩
theorem Cw_LN {c : Nat} (h : Cw c) (L : Nat) : LN L (c + 1) = 6 := by
  unfold LN
  rw [if_neg (by have := h.1; omega), if_neg (by have := h.1; omega)]
  exact h.2.2.2.2.1
section CampC
variable {d c L : Nat} {I : Nat → Nat → Int32} {J : Nat → Nat → Int64} {ns : List (List Nat)} {ct : List Nat}
theorem c_within (M : Mem) (Q : Int32 → Mem → Prop) (x a b : Int32) : WI d i_KN_isWithin [.int x, .int a, .int b] M Q ↔ Q (bI (decide (a ≤ x ∧ x ≤ b))) M := by
  rw [E_KN_isWithin]
  by_cases h1 : x < a
  · rw [if_pos h1, decide_eq_false (fun q => by have := q.1; exact absurd h1 (Int32.not_lt.mpr this))]
    rfl
  · rw [if_neg h1]
    by_cases h2 : b < x
    · rw [if_pos h2, decide_eq_false (fun q => by have := q.2; exact absurd h2 (Int32.not_lt.mpr this))]
      rfl
    · rw [if_neg h2, decide_eq_true ⟨Int32.not_lt.mp h1, Int32.not_lt.mp h2⟩]
      rfl
end CampC
end
section
section CampD
variable {d c L : Nat} {I : Nat → Nat → Int32} {J : Nat → Nat → Int64} {ns : List (List Nat)} {ct : List Nat}
theorem c_hasY (hC : Cw c) (hl : Cl I c ns ct) {h : Nat} (hh : h < ns.length) (Q : Int32 → Mem → Prop) : WI (d + 1) i_Camp_has [.ref c, .int (nI h)] (mm L I J) Q ↔ Q 1 (mm L I J) := by
  have h6 := hl.2.1
  rw [E_Camp_has, mm_C, if_pos hC.2.1, c_within, mm_I, hl.1, nI_m1 (by omega), decide_eq_true ⟨nI_pos' (by omega), nI_le (by omega) (by omega)⟩]
  rfl
theorem c_hasN (hC : Cw c) (hl : Cl I c ns ct) {x : Int32} (hx : x < 0 ∨ nI ns.length ≤ x) (Q : Int32 → Mem → Prop) : WI (d + 1) i_Camp_has [.ref c, .int x] (mm L I J) Q ↔ Q 0 (mm L I J) := by
  have h6 := hl.2.1
  have hn : ¬ (0 ≤ x ∧ x ≤ nI ns.length - 1) := by
    intro q
    rcases hx with h | h
    · exact absurd h (Int32.not_lt.mpr q.1)
    · by_cases h0 : ns.length = 0
      · rw [h0] at q
        have q2 : x ≤ -1 := q.2
        exact absurd (Int32.le_trans q.1 q2) (by decide)
      · rw [nI_m1 (by omega)] at q
        exact absurd (Int32.le_trans h q.2) (nI_ge (by omega) (by omega))
  rw [E_Camp_has, mm_C, if_pos hC.2.1, c_within, mm_I, hl.1, decide_eq_false hn]
  rfl
theorem cw_rr (hC : Cw c) {h : Nat} (hh : h < 6) : RR (c + 1) (nI h).toNatClampNeg = c + 4 + 2 * h := by rw [ix_nI (by omega)]; exact (hC.2.2.2.2.2.2.2 h hh).1
theorem cw_ok (hC : Cw c) {h : Nat} (hh : h < 6) : (rdA 14 ∧ inb (nI h) 6) ∧ RR (c + 1) (nI h).toNatClampNeg ≠ 999999 := by
  have h2 := hC.1
  refine ⟨⟨by decide, inb_nI hh (by omega)⟩, ?_⟩
  rw [cw_rr hC hh]
  omega
theorem c_nameOf (hC : Cw c) {h : Nat} (hh : h < 6) (Q : Nat → Mem → Prop) : WA d i_Camp_nameOf [.ref c, .int (nI h)] (mm L I J) Q ↔ Q (c + 4 + 2 * h) (mm L I J) := by
  have h1 := (hC.2.2.2.2.2.2.2 h hh).1
  have h2 := hC.1
  rw [E_Camp_nameOf, mm_C, mm_R, mm_L, if_pos hC.2.1, hC.2.2.1, if_neg (by omega), Cw_LN hC, hC.2.2.2.1, if_pos (cw_ok hC hh), cw_rr hC hh]
def sumL : List (List Nat) → Nat → Nat → Nat
  | _, 0, _ => 0
  | ns, n + 1, k => (nmO ns k).length + sumL ns n (k + 1)
theorem sumL_le (hn : ∀ h, h < ns.length → (nmO ns h).length ≤ 12) : ∀ n k, k + n ≤ ns.length → sumL ns n k ≤ 12 * n := by
  intro n
  induction n with
  | zero => intro k _; exact Nat.le_refl _
  | succ n ih =>
    intro k hk
    have h1 := hn k (by omega)
    have h2 := ih (k + 1) (by omega)
    unfold sumL
    omega
theorem c_turns_loop (hC : Cw c) (hl : Cl I c ns ct) (Q : Option Value → Mem → Prop) : ∀ n k s, k + n = ns.length →
    (Wn d i_Camp_turns 4 [(0, .ref c), (1, .int (nI s)), (2, .int (nI k))] [] (mm L I J) Q ↔ Q (some (.int (nI (s + sumL ns n k)))) (mm L I J)) := by
  have h6 := hl.2.1
  intro n
  induction n with
  | zero =>
    intro k s hk
    rw [H_Camp_turns_4, mm_C, mm_I, if_pos hC.2.1, hl.1, if_neg (nI_nlt (by omega) (by omega))]
    rfl
  | succ n ih =>
    intro k s hk
    have h1 := (hC.2.2.2.2.2.2.2 k (by omega))
    have h2 := hC.1
    rw [H_Camp_turns_4, mm_C, mm_R, mm_L, mm_I, if_pos hC.2.1, hl.1, if_pos (nI_lt (by omega) (by omega)), if_pos hC.2.1, hC.2.2.1, if_neg (by omega), Cw_LN hC, hC.2.2.2.1, if_pos (cw_ok hC (show k < 6 by omega)), cw_rr hC (show k < 6 by omega), if_pos h1.2.1, (hl.2.2.1 k (by omega)).1.1, nI_add, nI_1, ih (k + 1) _ (by omega), Nat.add_assoc]
    rfl
theorem c_turns (hC : Cw c) (hl : Cl I c ns ct) (Q : Int32 → Mem → Prop) : WI d i_Camp_turns [.ref c] (mm L I J) Q ↔ Q (nI (sumL ns ns.length 0)) (mm L I J) := by
  rw [E_Camp_turns]
  have := c_turns_loop (d := d) (L := L) (J := J) hC hl (QI Q) ns.length 0 0 (by omega)
  rw [Nat.zero_add] at this
  exact this
/-- the set of the places where P is -/
def bts (P : Nat → Bool) : Nat → Nat → Int32 → Int32
  | 0, _, s => s
  | n + 1, k, s => bts P n (k + 1) (if P k = true then s ||| ((1 : Int32) <<< (nI k &&& 31)) else s)
theorem bts_t {P : Nat → Bool} {n k : Nat} {s : Int32} (h : P k = true) : bts P (n + 1) k s = bts P n (k + 1) (s ||| ((1 : Int32) <<< (nI k &&& 31))) := by show bts P n (k + 1) (if P k = true then _ else s) = _; rw [if_pos h]
theorem bts_f {P : Nat → Bool} {n k : Nat} {s : Int32} (h : P k = false) : bts P (n + 1) k s = bts P n (k + 1) s := by show bts P n (k + 1) (if P k = true then _ else s) = _; rw [if_neg (by rw [h]; decide)]
theorem bts_cg {P P' : Nat → Bool} : ∀ n k s, (∀ j, k ≤ j → j < k + n → P j = P' j) → bts P n k s = bts P' n k s := by
  intro n
  induction n with
  | zero => intro k s _; rfl
  | succ n ih =>
    intro k s h
    unfold bts
    rw [h k (Nat.le_refl _) (by omega)]
    exact ih _ _ (fun j h1 h2 => h j (by omega) (by omega))
def namP (ns : List (List Nat)) : Nat → Bool := fun k => decide (0 < (nmO ns k).length)
theorem c_named_loop (hC : Cw c) (hl : Cl I c ns ct) (Q : Option Value → Mem → Prop) : ∀ n k s, k + n = ns.length →
    (Wn d i_Camp_named 4 [(0, .ref c), (1, .int s), (2, .int (nI k))] [] (mm L I J) Q ↔ Q (some (.int (bts (namP ns) n k s))) (mm L I J)) := by
  have h6 := hl.2.1
  intro n
  induction n with
  | zero =>
    intro k s hk
    rw [H_Camp_named_4, mm_C, mm_I, if_pos hC.2.1, hl.1, if_neg (nI_nlt (by omega) (by omega))]
    rfl
  | succ n ih =>
    intro k s hk
    have h1 := (hC.2.2.2.2.2.2.2 k (by omega))
    have h2 := hC.1
    have h3 := (hl.2.2.1 k (by omega))
    rw [H_Camp_named_4, mm_C, mm_R, mm_L, mm_I, if_pos hC.2.1, hl.1, if_pos (nI_lt (by omega) (by omega)), if_pos hC.2.1, hC.2.2.1, if_neg (by omega), Cw_LN hC, hC.2.2.2.1, if_pos (cw_ok hC (show k < 6 by omega)), cw_rr hC (show k < 6 by omega), if_pos h1.2.1, h3.1.1, nI_1, ih (k + 1) _ (by omega), ih (k + 1) _ (by omega)]
    by_cases e : 0 < (nmO ns k).length
    · have e1 : (0 : Int32) < nI (nmO ns k).length := nI_lt e (by omega)
      rw [if_pos e1, bts_t (P := namP ns) (decide_eq_true e)]
    · have e0 : (nmO ns k).length = 0 := by omega
      rw [if_neg (by rw [e0]; decide), bts_f (P := namP ns) (decide_eq_false e)]
theorem c_named (hC : Cw c) (hl : Cl I c ns ct) (Q : Int32 → Mem → Prop) : WI d i_Camp_named [.ref c] (mm L I J) Q ↔ Q (bts (namP ns) ns.length 0 0) (mm L I J) := by
  rw [E_Camp_named]
  exact c_named_loop hC hl (QI Q) ns.length 0 0 (by omega)
def likP (ns : List (List Nat)) (h : Nat) : Nat → Bool := fun k => decide (nmO ns k = nmO ns h)
def likS (ns : List (List Nat)) (h : Nat) : Int32 := bts (likP ns h) ns.length 0 0
theorem c_like_loop (hC : Cw c) (hl : Cl I c ns ct) {h : Nat} (hh : h < ns.length) (Q : Option Value → Mem → Prop) : ∀ n k s, k + n = ns.length →
    (Wn (d + 3) i_Camp_calledLike 4 [(0, .ref c), (1, .int (nI h)), (2, .int s), (3, .int (nI k))] [] (mm L I J) Q ↔ Q (some (.int (bts (likP ns h) n k s))) (mm L I J)) := by
  have h6 := hl.2.1
  intro n
  induction n with
  | zero =>
    intro k s hk
    rw [H_Camp_calledLike_4, mm_C, mm_I, if_pos hC.2.1, hl.1, if_neg (nI_nlt (by omega) (by omega))]
    rfl
  | succ n ih =>
    intro k s hk
    have h1 := (hC.2.2.2.2.2.2.2 k (by omega))
    have g1 := (hC.2.2.2.2.2.2.2 h (by omega))
    have h2 := hC.1
    have h3 := (hl.2.2.1 k (by omega))
    have g3 := (hl.2.2.1 h (by omega))
    rw [H_Camp_calledLike_4, mm_C, mm_R, mm_L, mm_I, if_pos hC.2.1, hl.1, if_pos (nI_lt (by omega) (by omega)), if_pos hC.2.1, hC.2.2.1, if_neg (by omega), Cw_LN hC, hC.2.2.2.1, if_pos (cw_ok hC (show k < 6 by omega)), cw_rr hC (show k < 6 by omega), if_pos hC.2.1, if_neg (by omega), if_pos (cw_ok hC (show h < 6 by omega)), cw_rr hC (show h < 6 by omega), if_pos h1.2.1, c_isLike h1.2 g1.2 h3.1 g3.1 h3.2 g3.2, nI_1, ih (k + 1) _ (by omega), ih (k + 1) _ (by omega)]
    by_cases e : nmO ns k = nmO ns h
    · rw [if_neg (by rw [decide_eq_true e]; decide), bts_t (P := likP ns h) (decide_eq_true e)]
    · rw [if_pos (by rw [decide_eq_false e]; rfl), bts_f (P := likP ns h) (decide_eq_false e)]
theorem c_like (hC : Cw c) (hl : Cl I c ns ct) {h : Nat} (hh : h < ns.length) (Q : Int32 → Mem → Prop) : WI (d + 3) i_Camp_calledLike [.ref c, .int (nI h)] (mm L I J) Q ↔ Q (likS ns h) (mm L I J) := by
  rw [E_Camp_calledLike]
  exact c_like_loop hC hl hh (QI Q) ns.length 0 0 (by omega)
def unlP (ns : List (List Nat)) : Nat → Bool := fun k => likS ns k &&& (((1 : Int32) <<< (nI k &&& 31)) - 1) == 0
theorem c_unl_loop (hC : Cw c) (hl : Cl I c ns ct) (Q : Option Value → Mem → Prop) : ∀ n k s, k + n = ns.length →
    (Wn (d + 4) i_Camp_unlikeNames 4 [(0, .ref c), (1, .int (nI s)), (2, .int (nI k))] [] (mm L I J) Q ↔ Q (some (.int (nI (s + cnt (unlP ns) n k)))) (mm L I J)) := by
  have h6 := hl.2.1
  intro n
  induction n with
  | zero =>
    intro k s hk
    rw [H_Camp_unlikeNames_4, mm_C, mm_I, if_pos hC.2.1, hl.1, if_neg (nI_nlt (by omega) (by omega))]
    rfl
  | succ n ih =>
    intro k s hk
    rw [H_Camp_unlikeNames_4, mm_C, mm_I, if_pos hC.2.1, hl.1, if_pos (nI_lt (by omega) (by omega)), if_pos hC.2.1, c_like hC hl (by omega), nI_1, nI_1, ih (k + 1) _ (by omega), ih (k + 1) _ (by omega)]
    by_cases e : likS ns k &&& (((1 : Int32) <<< (nI k &&& 31)) - 1) = 0
    · rw [if_pos e, cnt_t (P := unlP ns) (by unfold unlP; rw [e]; rfl), Nat.add_assoc]
    · rw [if_neg e, cnt_f (P := unlP ns) (by unfold unlP; exact beq_false_of_ne e)]
theorem c_unl (hC : Cw c) (hl : Cl I c ns ct) (Q : Int32 → Mem → Prop) : WI (d + 4) i_Camp_unlikeNames [.ref c] (mm L I J) Q ↔ Q (nI (cnt (unlP ns) ns.length 0)) (mm L I J) := by
  rw [E_Camp_unlikeNames]
  have := c_unl_loop (d := d) (L := L) (J := J) hC hl (QI Q) ns.length 0 0 (by omega)
  rw [Nat.zero_add] at this
  exact this
end CampD
end
section
section CampE
variable {d c L : Nat} {I : Nat → Nat → Int32} {J : Nat → Nat → Int64} {ns : List (List Nat)} {ct : List Nat}
theorem c_emptyA {r cp : Nat} (hr : Rw r cp) (Q : Int32 → Mem → Prop) (h : ∀ I', Rl I' r [] → Fr1 r I I' → Q (I r 1) (mm L I' J)) : WI d i_Row_empty [.ref r] (mm L I J) Q := by
  rw [E_Row_empty, mm_C, mm_I, if_pos hr.1, if_pos hr.1, mm_sI]
  exact h _ Rl_0 Fr1_0
theorem c_cempty (hC : Cw c) (Q : Mem → Prop) (h : ∀ I', Cl I' c [] [] → FrR c (c + 16) I I' → Q (mm L I' J)) : WV (d + 1) i_Camp_empty [.ref c] (mm L I J) Q := by
  have h2 := hC.1
  rw [E_Camp_empty, mm_C, mm_sI, mm_C, mm_R, if_pos hC.2.1, if_pos hC.2.1, hC.2.2.2.2.2.1, if_neg (by omega), if_pos hC.2.2.2.2.2.2.1.1]
  refine c_emptyA hC.2.2.2.2.2.2.1 _ (fun I' h1 h3 => ?_)
  refine h I' ⟨?_, Nat.zero_le _, fun k hk => absurd hk (Nat.not_lt_zero k), h1, Nat.zero_le _⟩ (FrR_tr (FrR_u (by omega) (by omega)) (FrR_1 h3 (by omega) (by omega)))
  rw [h3 c (by omega) (by omega), up2_same]
  rfl
theorem nmO_app (ns : List (List Nat)) (x : List Nat) {k : Nat} (h : k < ns.length) : nmO (ns ++ [x]) k = nmO ns k := by
  unfold nmO
  rw [List.getD_eq_getElem?_getD, List.getD_eq_getElem?_getD, List.getElem?_append_left h]
theorem nmO_end (ns : List (List Nat)) (x : List Nat) : nmO (ns ++ [x]) ns.length = x := by
  unfold nmO
  rw [List.getD_eq_getElem?_getD, List.getElem?_append_right (Nat.le_refl _), Nat.sub_self]
  rfl
theorem nmO_set (ns : List (List Nat)) (x : List Nat) {h : Nat} (hh : h < ns.length) : nmO (ns.set h x) h = x := by
  unfold nmO
  rw [List.getD_eq_getElem?_getD, List.getElem?_set_self hh]
  rfl
theorem nmO_setn (ns : List (List Nat)) (x : List Nat) {h k : Nat} (hh : h ≠ k) : nmO (ns.set h x) k = nmO ns k := by
  unfold nmO
  rw [List.getD_eq_getElem?_getD, List.getD_eq_getElem?_getD, List.getElem?_set_ne hh]
theorem c_addH (hC : Cw c) (hl : Cl I c ns ct) (hn : ns.length < 6) (Q : Mem → Prop) (h : ∀ I', Cl I' c (ns ++ [[]]) ct → FrR c (c + 16) I I' → Q (mm L I' J)) : WV (d + 1) i_Camp_addHerder [.ref c] (mm L I J) Q := by
  have h2 := hC.1
  have hk := hC.2.2.2.2.2.2.2 ns.length hn
  have e6 : nI ns.length < nI 6 := nI_lt hn (by omega)
  have e6 : nI ns.length < 6 := e6
  rw [E_Camp_addHerder, mm_C, mm_I, mm_R, mm_L, if_pos hC.2.1, hl.1, if_pos e6, if_pos hC.2.1, hC.2.2.1, if_neg (by omega), if_pos hC.2.1, Cw_LN hC, hC.2.2.2.1, if_pos (cw_ok hC hn), cw_rr hC hn, if_pos hk.2.1]
  refine c_emptyA hk.2 _ (fun I' h1 h3 => ?_)
  have k1 : ∀ a, a ≠ c + 4 + 2 * ns.length → a ≠ c + 4 + 2 * ns.length + 1 → I' a = I a := h3
  rw [mm_C, mm_I, mm_sI, if_pos hC.2.1, if_pos hC.2.1, k1 c (by omega) (by omega), hl.1, nI_1]
  refine h _ ⟨?_, ?_, fun k hk2 => ?_, ?_, hl.2.2.2.2⟩ (FrR_tr (FrR_1 h3 (by omega) (by omega)) (FrR_u (by omega) (by omega)))
  · rw [up2_same, List.length_append]
    rfl
  · rw [List.length_append]
    exact hn
  · rw [List.length_append, List.length_singleton] at hk2
    by_cases e : k = ns.length
    · rw [e, nmO_end]
      exact ⟨Rl_keep h1 (up2_ne _ _ _ (by omega)) (up2_ne _ _ _ (by omega)), Nat.zero_le _⟩
    · rw [nmO_app _ _ (by omega)]
      have := hl.2.2.1 k (by omega)
      refine ⟨Rl_keep this.1 ?_ ?_, this.2⟩
      · rw [up2_ne _ _ _ (by omega), k1 _ (by omega) (by omega)]
      · rw [up2_ne _ _ _ (by omega), k1 _ (by omega) (by omega)]
  · refine Rl_keep hl.2.2.2.1 ?_ ?_
    · rw [up2_ne _ _ _ (by omega), k1 _ (by omega) (by omega)]
    · rw [up2_ne _ _ _ (by omega), k1 _ (by omega) (by omega)]
/-- a name is exchanged -/
theorem Cl_set {I' : Nat → Nat → Int32} {h : Nat} {x : List Nat} (hl : Cl I c ns ct) (hh : h < ns.length) (hF : Fr1 (c + 4 + 2 * h) I I') (hx : Rl I' (c + 4 + 2 * h) x) (hx2 : x.length ≤ 12) : Cl I' c (ns.set h x) ct := by
  have k1 : ∀ a, a ≠ c + 4 + 2 * h → a ≠ c + 4 + 2 * h + 1 → I' a = I a := hF
  have h6 := hl.2.1
  refine ⟨?_, ?_, fun k hk => ?_, ?_, hl.2.2.2.2⟩
  · rw [k1 c (by omega) (by omega), List.length_set]
    exact hl.1
  · rw [List.length_set]
    exact h6
  · rw [List.length_set] at hk
    by_cases e : h = k
    · rw [← e, nmO_set _ _ hh]
      exact ⟨hx, hx2⟩
    · rw [nmO_setn _ _ e]
      have := hl.2.2.1 k hk
      exact ⟨Rl_keep this.1 (k1 _ (by omega) (by omega)) (k1 _ (by omega) (by omega)), this.2⟩
  · exact Rl_keep hl.2.2.2.1 (k1 _ (by omega) (by omega)) (k1 _ (by omega) (by omega))
theorem Cl_con {I' : Nat → Nat → Int32} {x : List Nat} (hl : Cl I c ns ct) (hF : Fr1 (c + 2) I I') (hx : Rl I' (c + 2) x) (hx2 : x.length ≤ 12) : Cl I' c ns x := by
  have k1 : ∀ a, a ≠ c + 2 → a ≠ c + 2 + 1 → I' a = I a := hF
  refine ⟨?_, hl.2.1, fun k hk => ?_, hx, hx2⟩
  · rw [k1 c (by omega) (by omega)]
    exact hl.1
  · have := hl.2.2.1 k hk
    exact ⟨Rl_keep this.1 (k1 _ (by omega) (by omega)) (k1 _ (by omega) (by omega)), this.2⟩
theorem c_tieLast (hC : Cw c) (hl : Cl I c ns ct) {h : Nat} (hn : ns.length = h + 1) {t : Nat} (ht : t < 6) (hx : (tie (nmO ns h) t).length ≤ 12) (Q : Mem → Prop) (hq : ∀ I', Cl I' c (ns.set h (tie (nmO ns h) t)) ct → FrR c (c + 16) I I' → Q (mm L I' J)) : WV (d + 3) i_Camp_tieLastHerder [.ref c, .int (nI t)] (mm L I J) Q := by
  have h2 := hC.1
  have h6 := hl.2.1
  have hk := hC.2.2.2.2.2.2.2 h (by omega)
  have hp : (0 : Int32) < nI (h + 1) := nI_lt (show 0 < h + 1 by omega) (by omega)
  have hr := hl.2.2.1 h (by omega)
  rw [E_Camp_tieLastHerder, mm_C, mm_I, mm_R, mm_L, if_pos hC.2.1, hl.1, hn, if_pos hp, if_pos hC.2.1, hC.2.2.1, if_neg (by omega), if_pos hC.2.1, Cw_LN hC, hC.2.2.2.1, nI_pred, if_pos (cw_ok hC (show h < 6 by omega)), cw_rr hC (show h < 6 by omega), if_pos hk.2.1]
  exact c_tie hk.2 hr.1 hr.2 hx ht _ (fun I' g1 g2 => hq I' (Cl_set hl (by omega) g2 g1 hx) (FrR_1 g2 (by omega) (by omega)))
theorem c_cbec_loop {o : Nat} (hC : Cw c) (hO : Cw o) (hne : c + 16 ≤ o ∨ o + 16 ≤ c) (Q : Option Value → Mem → Prop) : ∀ (n k : Nat) (I : Nat → Nat → Int32), k + n = ns.length → Cl I o ns ct → I c 2 = nI ns.length → (∀ h, h < k → Rl I (c + 4 + 2 * h) (nmO ns h)) → (∀ I', Cl I' c ns ct → FrR c (c + 16) I I' → Q none (mm L I' J)) →
    Wn (d + 2) i_Camp_become 10 [(0, .ref c), (1, .ref o), (2, .int (nI k))] [] (mm L I J) Q := by
  intro n
  have h2 := hC.1
  have h2o := hO.1
  induction n with
  | zero =>
    intro k I hk hl hn hrs h
    have h6 := hl.2.1
    rw [H_Camp_become_10, mm_C, mm_I, mm_R, if_pos hC.2.1, hn, if_neg (nI_nlt (by omega) (by omega)), if_pos hC.2.1, hC.2.2.2.2.2.1, if_neg (by omega), if_pos hO.2.1, hO.2.2.2.2.2.1, if_neg (by omega), if_pos hC.2.2.2.2.2.2.1.1]
    refine c_become hC.2.2.2.2.2.2.1 hO.2.2.2.2.2.2.1 (by omega) hl.2.2.2.1 hl.2.2.2.2 hl.2.2.2.2 _ (fun I' g1 g2 => ?_)
    have k1 : ∀ a, a ≠ c + 2 → a ≠ c + 2 + 1 → I' a = I a := g2
    refine h I' ⟨?_, h6, fun h hh => ?_, g1, hl.2.2.2.2⟩ (FrR_1 g2 (by omega) (by omega))
    · rw [k1 c (by omega) (by omega)]
      exact hn
    · exact ⟨Rl_keep (hrs h (by omega)) (k1 _ (by omega) (by omega)) (k1 _ (by omega) (by omega)), (hl.2.2.1 h hh).2⟩
  | succ n ih =>
    intro k I hk hl hn hrs h
    have h6 := hl.2.1
    have hkc := hC.2.2.2.2.2.2.2 k (by omega)
    have hko := hO.2.2.2.2.2.2.2 k (by omega)
    have hr := hl.2.2.1 k (by omega)
    rw [H_Camp_become_10, mm_C, mm_I, mm_R, mm_L, if_pos hC.2.1, hn, if_pos (nI_lt (by omega) (by omega)), if_pos hC.2.1, hC.2.2.1, if_neg (by omega), Cw_LN hC, hC.2.2.2.1, if_pos (cw_ok hC (show k < 6 by omega)), cw_rr hC (show k < 6 by omega), if_pos hO.2.1, hO.2.2.1, if_neg (by omega), Cw_LN hO, hO.2.2.2.1, if_pos (cw_ok hO (show k < 6 by omega)), cw_rr hO (show k < 6 by omega), if_pos hkc.2.1]
    refine c_become hkc.2 hko.2 (by omega) hr.1 hr.2 hr.2 _ (fun I' g1 g2 => ?_)
    have k1 : ∀ a, a ≠ c + 4 + 2 * k → a ≠ c + 4 + 2 * k + 1 → I' a = I a := g2
    rw [nI_1]
    refine ih (k + 1) I' (by omega) (Cl_fr (FrR_1 (lo := c) (hi := c + 16) g2 (by omega) (by omega)) (by omega) hl) ?_ (fun j hj => ?_) (fun I'' f1 f2 => h I'' f1 (FrR_tr (FrR_1 g2 (by omega) (by omega)) f2))
    · rw [k1 c (by omega) (by omega)]
      exact hn
    · by_cases e : j = k
      · rw [e]
        exact g1
      · exact Rl_keep (hrs j (by omega)) (k1 _ (by omega) (by omega)) (k1 _ (by omega) (by omega))
theorem c_cbec {o : Nat} (hC : Cw c) (hO : Cw o) (hne : c + 16 ≤ o ∨ o + 16 ≤ c) (hl : Cl I o ns ct) (Q : Mem → Prop) (h : ∀ I', Cl I' c ns ct → FrR c (c + 16) I I' → Q (mm L I' J)) : WV (d + 2) i_Camp_become [.ref c, .ref o] (mm L I J) Q := by
  have h2 := hC.1
  rw [E_Camp_become, mm_C, mm_I, if_pos hO.2.1, if_pos hC.2.1, hl.1, mm_sI]
  have hF : FrR c (c + 16) I (up2 I c 2 (nI ns.length)) := FrR_u (by omega) (by omega)
  refine c_cbec_loop hC hO hne (QV Q) ns.length 0 _ (by omega) (Cl_fr hF (by omega) hl) (up2_same _ _ _ _) (fun j hj => absurd hj (Nat.not_lt_zero j)) (fun I' g1 g2 => h I' g1 (FrR_tr hF g2))
end CampE
end
section
/-! ===== the past of the class ===== -/
theorem CL0 : CL 0 = 6 := by decide
theorem CL1 : CL 1 = 5 := by decide
theorem CL2 : CL 2 = 11 := by decide
theorem CL3 : CL 3 = 0 := by decide
theorem CL19 : CL 19 = 3 := by decide
theorem CL20 : CL 20 = 15 := by decide
theorem CL183 : CL 183 = 1 := by decide
theorem CL191 : CL 191 = 2 := by decide
theorem RR0_0 : RR 0 0 = 1 := by decide
theorem RR0_1 : RR 0 1 = 3 := by decide
theorem RR0_2 : RR 0 2 = 19 := by decide
theorem RR1_0 : RR 1 0 = 2 := by decide
theorem RR3_1 : RR 3 1 = 5 := by decide
theorem RR19 : RR 19 0 = 20 := by decide
theorem LN20 (L : Nat) : LN L 20 = 10 := rfl
theorem LN2 (L : Nat) : LN L 2 = 200 := rfl
theorem RR20 : ∀ i, i < 10 → RR 20 i = 21 + 16 * i := by decide
theorem p_rr {i : Nat} (hi : i < 10) : RR 20 (nI i).toNatClampNeg = 21 + 16 * i := by rw [ix_nI (by omega)]; exact RR20 i hi
theorem p_ok {i : Nat} (hi : i < 10) : (rdA 15 ∧ inb (nI i) 10) ∧ RR 20 (nI i).toNatClampNeg ≠ 999999 := by
  refine ⟨⟨by decide, inb_nI hi (by omega)⟩, ?_⟩
  rw [p_rr hi]
  omega
abbrev Cp : Type := List (List Nat) × List Nat
def cp0 : Cp := ([], [])
def slot (w i : Nat) : Nat := 21 + 16 * ((w + 10 - i) % 10)
/-- the class' past: the newest camp first -/
def PcR (I : Nat → Nat → Int32) (w : Nat) (ps : List Cp) : Prop := I 19 1 = nI w ∧ w < 10 ∧ I 19 2 = nI ps.length ∧ ps.length ≤ 10 ∧ ∀ i, i < ps.length → Cl I (slot w i) (ps.getD i cp0).1 (ps.getD i cp0).2
theorem PcR_fr {I I' : Nat → Nat → Int32} {lo hi w : Nat} {ps : List Cp} (hF : FrR lo hi I I') (hc : 181 ≤ lo ∨ hi ≤ 19) (h : PcR I w ps) : PcR I' w ps := by
  obtain ⟨h1, h2, h3, h4, h5⟩ := h
  refine ⟨by rw [hF 19 (by omega)]; exact h1, h2, by rw [hF 19 (by omega)]; exact h3, h4, fun i hi => ?_⟩
  have := Nat.mod_lt (w + 10 - i) (show 0 < 10 by omega)
  exact Cl_fr hF (by unfold slot; omega) (h5 i hi)
section PastC
variable {d L : Nat} {I : Nat → Nat → Int32} {J : Nat → Nat → Int64} {ns : List (List Nat)} {ct : List Nat} {w : Nat} {ps : List Cp}
theorem PcR_push {I' : Nat → Nat → Int32} {w' : Nat} (hp : PcR I w ps) (hw : w' = (w + 1) % 10) (hF : ∀ i, i < 10 → i ≠ w' → ∀ a, 21 + 16 * i ≤ a → a < 21 + 16 * i + 16 → I' a = I a) (h1 : I' 19 1 = nI w') (h2 : I' 19 2 = nI (min (ps.length + 1) 10)) (hc : Cl I' (21 + 16 * w') ns ct) : PcR I' w' (((ns, ct) :: ps).take 10) := by
  obtain ⟨p1, p2, p3, p4, p5⟩ := hp
  have hlen : (((ns, ct) :: ps).take 10).length = min (ps.length + 1) 10 := by rw [List.length_take, List.length_cons]; omega
  refine ⟨h1, by omega, by rw [hlen]; exact h2, by omega, fun i hi => ?_⟩
  rw [hlen] at hi
  have e : (((ns, ct) :: ps).take 10).getD i cp0 = ((ns, ct) :: ps).getD i cp0 := by
    rw [List.getD_eq_getElem?_getD, List.getD_eq_getElem?_getD, List.getElem?_take, if_pos (by omega)]
  rw [e]
  cases i with
  | zero =>
    have : slot w' 0 = 21 + 16 * w' := by unfold slot; omega
    rw [this]
    exact hc
  | succ i =>
    have e1 : slot w' (i + 1) = slot w i := by unfold slot; omega
    rw [e1]
    show Cl I' (slot w i) (ps.getD i cp0).1 (ps.getD i cp0).2
    have h5 := p5 i (by omega)
    have k1 : ∀ a, slot w i ≤ a → a < slot w i + 16 → I' a = I a := by
      intro a q1 q2
      exact hF ((w + 10 - i) % 10) (by omega) (by omega) a q1 q2
    obtain ⟨g1, g2, g3, g4, g5⟩ := h5
    refine ⟨by rw [k1 _ (by omega) (by omega)]; exact g1, g2, fun h hh => ⟨Rl_keep (g3 h hh).1 (k1 _ (by omega) (by omega)) (k1 _ (by omega) (by omega)), (g3 h hh).2⟩, Rl_keep g4 (k1 _ (by omega) (by omega)) (k1 _ (by omega) (by omega)), g5⟩
theorem c_rem_end {I0 : Nat → Nat → Int32} {w' : Nat} (hw : w' = (w + 1) % 10) (hp : PcR I0 w ps) (hl : Cl I0 3 ns ct) (hI : I = up2 I0 19 1 (nI w')) (Q : Mem → Prop) (h : ∀ I' w', PcR I' w' (((ns, ct) :: ps).take 10) → FrR 19 181 I0 I' → Q (mm L I' J)) :
    WV (d + 2) i_Camp_become [.ref (21 + 16 * w'), .ref 3] (mm L I J) (fun M1 => if mC M1 19 = 3 then (if mC M1 19 = 3 then Q (setI M1 19 2 (if (10 : Int32) < ((mI M1 19 2) + (1 : Int32)) then (10 : Int32) else ((mI M1 19 2) + (1 : Int32)))) else False) else False) := by
  have hw10 : w' < 10 := by omega
  have hF0 : FrR 19 20 I0 I := by rw [hI]; exact FrR_u (by omega) (by omega)
  refine c_cbec (Cw_p w' hw10) Cw_3 (by omega) (Cl_fr hF0 (by omega) hl) _ (fun I' g1 g2 => ?_)
  have e2 : I' 19 2 = nI ps.length := by
    rw [g2 19 (by omega), hI, up2_other _ _ _ (by omega)]
    exact hp.2.2.1
  rw [mm_C, mm_I, mm_sI, if_pos CL19, if_pos CL19, e2, nI_1]
  have h10 := hp.2.2.2.1
  have em : (if (10 : Int32) < nI (ps.length + 1) then (10 : Int32) else nI (ps.length + 1)) = nI (min (ps.length + 1) 10) := by
    by_cases q : 10 < ps.length + 1
    · have q1 : nI 10 < nI (ps.length + 1) := nI_lt q (by omega)
      have q1 : (10 : Int32) < nI (ps.length + 1) := q1
      rw [if_pos q1, Nat.min_eq_right (by omega)]
      rfl
    · have q1 : ¬ nI 10 < nI (ps.length + 1) := nI_nlt (by omega) (by omega)
      have q1 : ¬ (10 : Int32) < nI (ps.length + 1) := q1
      rw [if_neg q1, Nat.min_eq_left (by omega)]
  rw [em]
  refine h _ w' (PcR_push hp hw (fun i hi hne a q1 q2 => ?_) ?_ (up2_same _ _ _ _) ?_) (fun a q => ?_)
  · rw [up2_ne _ _ _ (by omega), g2 a (by omega), hF0 a (by omega)]
  · rw [up2_other _ _ _ (by omega), g2 19 (by omega), hI, up2_same]
  · exact Cl_fr (FrR_u (lo := 19) (hi := 20) (by omega) (by omega)) (by omega) g1
  · rw [up2_ne _ _ _ (by omega), g2 a (by omega), hF0 a (by omega)]
theorem c_rem (hp : PcR I w ps) (hl : Cl I 3 ns ct) (Q : Mem → Prop) (h : ∀ I' w', PcR I' w' (((ns, ct) :: ps).take 10) → FrR 19 181 I I' → Q (mm L I' J)) : WV (d + 3) i_Past_remember [.ref 19, .ref 3] (mm L I J) Q := by
  obtain ⟨p1, p2, p3, p4, p5⟩ := id hp
  rw [E_Past_remember, mm_C, mm_I, if_pos CL19, p1, nI_1]
  by_cases hw : w + 1 < 10
  · have q1 : nI (w + 1) < nI 10 := nI_lt hw (by omega)
    have q1 : nI (w + 1) < 10 := q1
    rw [if_pos q1]
    simp only [mm_sI, mm_C, mm_R, mm_L, mm_I, up2_same]
    rw [if_pos CL19, if_pos CL19, if_pos CL19, RR19, if_neg (by omega), if_pos CL19, CL20, LN20, if_pos (p_ok hw), p_rr hw, if_pos (Cw_p (w + 1) hw).2.1]
    exact c_rem_end (by omega) hp hl rfl Q h
  · have q1 : ¬ nI (w + 1) < nI 10 := nI_nlt (by omega) (by omega)
    have q1 : ¬ nI (w + 1) < 10 := q1
    rw [if_neg q1]
    simp only [mm_sI, mm_C, mm_R, mm_L, mm_I, up2_same]
    have k0 : (rdA 15 ∧ inb 0 10) ∧ RR 20 (Int32.toNatClampNeg 0) ≠ 999999 := p_ok (i := 0) (by omega)
    have k1 : RR 20 (Int32.toNatClampNeg 0) = 21 + 16 * 0 := p_rr (i := 0) (by omega)
    rw [if_pos CL19, if_pos CL19, RR19, if_neg (by omega), if_pos CL19, CL20, LN20, if_pos k0, k1, if_pos (Cw_p 0 (by omega)).2.1]
    exact c_rem_end (w' := 0) (by omega) hp hl (by rw [nI_0]) Q h
theorem c_forget (hp : PcR I w ps) (Q : Mem → Prop) (h : ∀ I', PcR I' w [] → FrR 19 181 I I' → Q (mm L I' J)) : WV d i_Past_forget [.ref 19] (mm L I J) Q := by
  rw [E_Past_forget, mm_C, if_pos CL19, mm_sI]
  refine h _ ⟨?_, hp.2.1, up2_same _ _ _ _, Nat.zero_le _, fun i hi => absurd hi (Nat.not_lt_zero i)⟩ (FrR_u (by omega) (by omega))
  rw [up2_other _ _ _ (by omega)]
  exact hp.1
theorem PcR_pop {I' : Nat → Nat → Int32} {w' : Nat} {p : Cp} (hp : PcR I w (p :: ps)) (hw : w' = (w + 9) % 10) (hF : ∀ a, 21 ≤ a → a < 181 → I' a = I a) (h1 : I' 19 1 = nI w') (h2 : I' 19 2 = nI ps.length) : PcR I' w' ps := by
  obtain ⟨p1, p2, p3, p4, p5⟩ := hp
  rw [List.length_cons] at p4
  refine ⟨h1, by omega, h2, by omega, fun i hi => ?_⟩
  have h5 := p5 (i + 1) (by rw [List.length_cons]; omega)
  have e1 : slot w (i + 1) = slot w' i := by unfold slot; omega
  rw [e1] at h5
  have h5 : Cl I (slot w' i) (ps.getD i cp0).1 (ps.getD i cp0).2 := h5
  have hb : slot w' i + 16 ≤ 181 := by unfold slot; omega
  have hb2 : 21 ≤ slot w' i := by unfold slot; omega
  have k1 : ∀ a, slot w' i ≤ a → a < slot w' i + 16 → I' a = I a := fun a q1 q2 => hF a (by omega) (by omega)
  obtain ⟨g1, g2, g3, g4, g5⟩ := h5
  exact ⟨by rw [k1 _ (by omega) (by omega)]; exact g1, g2, fun h hh => ⟨Rl_keep (g3 h hh).1 (k1 _ (by omega) (by omega)) (k1 _ (by omega) (by omega)), (g3 h hh).2⟩, Rl_keep g4 (k1 _ (by omega) (by omega)) (k1 _ (by omega) (by omega)), g5⟩
theorem c_takeBack {p : Cp} (hp : PcR I w (p :: ps)) (Q : Mem → Prop) (h : ∀ I' w', Cl I' 3 p.1 p.2 → PcR I' w' ps → FrR 3 181 I I' → Q (mm L I' J)) : WV (d + 3) i_Past_takeBack [.ref 19, .ref 3] (mm L I J) Q := by
  obtain ⟨p1, p2, p3, p4, p5⟩ := id hp
  rw [List.length_cons] at p3 p4
  have hpos : (0 : Int32) < nI (ps.length + 1) := nI_lt (show 0 < ps.length + 1 by omega) (by omega)
  have hs : slot w 0 = 21 + 16 * w := by unfold slot; omega
  have h0 := p5 0 (by rw [List.length_cons]; omega)
  rw [hs] at h0
  rw [E_Past_takeBack, mm_C, mm_I, mm_R, mm_L, if_pos CL19, p3, if_pos hpos, if_pos CL19, RR19, if_neg (by omega), if_pos CL19, CL20, LN20, p1, if_pos (p_ok p2), p_rr p2, if_pos CL3]
  refine c_cbec Cw_3 (Cw_p w p2) (by omega) h0 _ (fun I' g1 g2 => ?_)
  have e1 : I' 19 1 = nI w := by rw [g2 19 (by omega)]; exact p1
  have e2 : I' 19 2 = nI (ps.length + 1) := by rw [g2 19 (by omega)]; exact p3
  simp only [mm_sI, mm_C, mm_R, mm_L, mm_I, e1, CL19, ↓reduceIte]
  by_cases hw : 0 < w
  · have q : (0 : Int32) < nI w := nI_lt hw (by omega)
    rw [if_pos q, up2_other _ _ _ (by omega), e2, nI_pred, nI_m1 hw]
    refine h _ (w - 1) ?_ (PcR_pop hp (by omega) (fun a q1 q2 => ?_) ?_ (up2_same _ _ _ _)) (fun a q => ?_)
    · exact Cl_fr (FrR_u (lo := 19) (hi := 20) (by omega) (by omega)) (by omega) (Cl_fr (FrR_u (lo := 19) (hi := 20) (by omega) (by omega)) (by omega) g1)
    · rw [up2_ne _ _ _ (by omega), up2_ne _ _ _ (by omega), g2 a (by omega)]
    · rw [up2_other _ _ _ (by omega), up2_same]
    · rw [up2_ne _ _ _ (by omega), up2_ne _ _ _ (by omega), g2 a (by omega)]
  · have w0 : w = 0 := by omega
    have q : ¬ (0 : Int32) < nI w := by rw [w0]; decide
    rw [if_neg q, up2_other _ _ _ (by omega), e2, nI_pred]
    refine h _ 9 ?_ (PcR_pop hp (by omega) (fun a q1 q2 => ?_) ?_ (up2_same _ _ _ _)) (fun a q => ?_)
    · exact Cl_fr (FrR_u (lo := 19) (hi := 20) (by omega) (by omega)) (by omega) (Cl_fr (FrR_u (lo := 19) (hi := 20) (by omega) (by omega)) (by omega) g1)
    · rw [up2_ne _ _ _ (by omega), up2_ne _ _ _ (by omega), g2 a (by omega)]
    · rw [up2_other _ _ _ (by omega), up2_same]
      rfl
    · rw [up2_ne _ _ _ (by omega), up2_ne _ _ _ (by omega), g2 a (by omega)]
end PastC
end
section
/-! ===== the text of the class ===== -/
def tnL (q : Nat) : Int32 := if q = 117 then 0 else if q = 100 then 1 else if q = 108 then 2 else if q = 114 then 3 else if q = 105 then 4 else if q = 111 then 5 else -1
def SxR (I : Nat → Nat → Int32) : Prop := I 1000001 1 = 0 ∧ I 1000002 0 = 117 ∧ I 1000002 1 = 100 ∧ I 1000002 2 = 108 ∧ I 1000002 3 = 114 ∧ I 1000002 4 = 105 ∧ I 1000002 5 = 111
theorem tnL_c : ∀ q : Fin 256, (if (117 : Int32) = Int8.toInt32 (Int32.toInt8 (nI q.1)) then (0 : Int32) else if (100 : Int32) = Int8.toInt32 (Int32.toInt8 (nI q.1)) then 1 else if (108 : Int32) = Int8.toInt32 (Int32.toInt8 (nI q.1)) then 2 else if (114 : Int32) = Int8.toInt32 (Int32.toInt8 (nI q.1)) then 3 else if (105 : Int32) = Int8.toInt32 (Int32.toInt8 (nI q.1)) then 4 else if (111 : Int32) = Int8.toInt32 (Int32.toInt8 (nI q.1)) then 5 else -1) = tnL q.1 := by decide +kernel
theorem CLs : CL 1000001 = 20 := by decide
theorem CLb : CL 1000002 = 13 := by decide
theorem RRs : RR 1000001 0 = 1000002 := by decide
theorem LNb (L : Nat) : LN L 1000002 = 6 := rfl
section TextC
variable {d L : Nat} {I : Nat → Nat → Int32} {J : Nat → Nat → Int64}
theorem pif {c : Prop} [Decidable c] {Q : Int32 → Mem → Prop} {a b : Int32} {M : Mem} : Q (if c then a else b) M ↔ (if c then Q a M else Q b M) := by split <;> exact Iff.rfl
theorem ix_step {k : Nat} (hk : k < 6) (v1 v4 : Int32) (Q : Option Value → Mem → Prop) : Wn d i_JLat_indexOfChar 7 [(0, .ref 1000002), (1, .int v1), (2, .int 0), (3, .int 6), (4, .int v4), (5, .int (nI k))] [] (mm L I J) Q ↔ (if I 1000002 k = v4 then Q (some (.int (nI k))) (mm L I J) else Wn d i_JLat_indexOfChar 7 [(0, .ref 1000002), (1, .int v1), (2, .int 0), (3, .int 6), (4, .int v4), (5, .int (nI (k + 1)))] [] (mm L I J) Q) := by
  have h6 : nI k < nI 6 := nI_lt hk (by omega)
  have h6 : nI k < 6 := h6
  rw [H_JLat_indexOfChar_7, if_pos h6, mm_C, mm_L, mm_I, CLb, LNb, if_pos ⟨by decide, inb_nI hk (by omega)⟩, ix_nI (by omega), nI_1]
theorem c_ixChar (hS : SxR I) {q : Nat} (hq : q < 256) (Q : Int32 → Mem → Prop) : WI d i_JLat_indexOfChar [.ref 1000002, .int (nI q), .int 0, .int 6] (mm L I J) Q ↔ Q (tnL q) (mm L I J) := by
  obtain ⟨s0, s1, s2, s3, s4, s5, s6⟩ := hS
  have e0 : (0 : Int32) = nI 0 := by rw [nI_0]
  rw [← tnL_c ⟨q, hq⟩, pif (Q := Q), pif (Q := Q), pif (Q := Q), pif (Q := Q), pif (Q := Q), pif (Q := Q)]
  rw [E_JLat_indexOfChar]
  have := ix_step (d := d) (L := L) (I := I) (J := J) (show 0 < 6 by omega) (nI q) (Int8.toInt32 (Int32.toInt8 (nI q))) (QI Q)
  rw [nI_0] at this
  rw [this, ix_step (by omega), ix_step (by omega), ix_step (by omega), ix_step (by omega), ix_step (by omega), H_JLat_indexOfChar_7, if_neg (show ¬ nI (0 + 1 + 1 + 1 + 1 + 1 + 1) < 6 by decide), s1, s2, s3, s4, s5, s6]
  exact Iff.rfl
theorem c_ixOf (hS : SxR I) {q : Nat} (hq : q < 256) (Q : Int32 → Mem → Prop) : WI (d + 4) i_JStr_indexOf [.ref 1000001, .int (nI q)] (mm L I J) Q ↔ Q (tnL q) (mm L I J) := by
  have s0 := hS.1
  have n1 : ¬ nI q < 0 := nI_pos (by omega)
  have n2 : ¬ (255 : Int32) < nI q := by
    have : ¬ nI 255 < nI q := nI_nlt (by omega) (by omega)
    exact this
  have a1 : isA 13 := by decide
  have l1 : (if nI 6 < (nI 6 >>> ((0 : Int32) &&& 31)) then nI 6 else (nI 6 >>> ((0 : Int32) &&& 31))) = (6 : Int32) := by decide
  rw [E_JStr_indexOf, mm_C, if_pos CLs, E_JStr_indexOf2, mm_C, if_pos CLs, E_JStr_isLatin1, if_neg (by decide), mm_C, if_pos CLs, mm_I, if_pos s0, if_neg (by decide), if_pos CLs, mm_R, RRs, if_neg (by omega), if_pos CLs, E_JStr_length, mm_C, if_pos CLs, mm_R, RRs, if_neg (by omega), CLb, if_pos a1, if_pos CLs, E_JStr_coder, if_neg (by decide), mm_C, if_pos CLs, mm_I, s0, if_pos (by decide), mm_L, LNb, E_JLat_indexOf, E_JLat_canEncode, if_neg n1, if_neg n2, if_neg (by decide), mm_C, CLb, if_pos a1, mm_L, LNb, if_neg (show ¬ (0 : Int32) < 0 by decide), l1, if_pos (by decide), c_ixChar hS hq]
theorem c_isTL (hS : SxR I) {q : Nat} (hq : q < 256) (Q : Int32 → Mem → Prop) : WI (d + 5) i_Text_isTurnLetter [.int (nI q)] (mm L I J) Q ↔ Q (if tnL q < 0 then 0 else 1) (mm L I J) := by
  rw [E_Text_isTurnLetter, mm_C, if_pos CLs, c_ixOf hS hq, pif (Q := Q)]
end TextC
end
section
def tnN (q : Nat) : Nat := if q = 117 then 0 else if q = 100 then 1 else if q = 108 then 2 else if q = 114 then 3 else if q = 105 then 4 else if q = 111 then 5 else 6
theorem tn_NL (q : Nat) : (tnN q < 6 ∧ ¬ tnL q < 0 ∧ tnL q = nI (tnN q)) ∨ (tnN q = 6 ∧ tnL q < 0 ∧ tnL q = -1) := by
  unfold tnN tnL
  by_cases h1 : q = 117
  · rw [if_pos h1, if_pos h1]; decide
  rw [if_neg h1, if_neg h1]
  by_cases h2 : q = 100
  · rw [if_pos h2, if_pos h2]; decide
  rw [if_neg h2, if_neg h2]
  by_cases h3 : q = 108
  · rw [if_pos h3, if_pos h3]; decide
  rw [if_neg h3, if_neg h3]
  by_cases h4 : q = 114
  · rw [if_pos h4, if_pos h4]; decide
  rw [if_neg h4, if_neg h4]
  by_cases h5 : q = 105
  · rw [if_pos h5, if_pos h5]; decide
  rw [if_neg h5, if_neg h5]
  by_cases h6 : q = 111
  · rw [if_pos h6, if_pos h6]; decide
  rw [if_neg h6, if_neg h6]
  decide
/-- the class' text -/
def TxR (I : Nat → Nat → Int32) (tx : List Nat) : Prop := I 1 1 = nI tx.length ∧ tx.length ≤ 200 ∧ ∀ k, k < tx.length → I 2 k = nI (tx.getD k 0) ∧ tx.getD k 0 < 256
theorem TxR_fr {I I' : Nat → Nat → Int32} {lo hi : Nat} {tx : List Nat} (hF : FrR lo hi I I') (hc : 3 ≤ lo ∨ hi ≤ 1) (h : TxR I tx) : TxR I' tx := by
  refine ⟨by rw [hF 1 (by omega)]; exact h.1, h.2.1, fun k hk => ?_⟩
  rw [hF 2 (by omega)]
  exact h.2.2 k hk
theorem SxR_fr {I I' : Nat → Nat → Int32} {lo hi : Nat} (hF : FrR lo hi I I') (hc : hi ≤ 1000000) (h : SxR I) : SxR I' := by
  unfold SxR
  rw [hF 1000001 (by omega), hF 1000002 (by omega)]
  exact h
def flt (tx : List Nat) : Nat → Nat → Nat → Nat → Bool → Option Nat
  | 0, k, _, _, o => if o = true then some k else none
  | n + 1, k, i, t, o =>
    if tx.getD k 0 = 32 then flt tx n (k + 1) i t o
    else if o = true then
      (if tx.getD k 0 = 59 then flt tx n (k + 1) i t false
       else if tnN (tx.getD k 0) < 6 then (if t < 8 then flt tx n (k + 1) i (t + 1) true else some k)
       else some k)
    else if tx.getD k 0 = 104 then (if i < 6 then flt tx n (k + 1) (i + 1) 0 true else some k)
    else some k
def fI : Option Nat → Int32
  | none => -1
  | some k => nI k
theorem q_ne {q : Nat} (c : Nat) (hq : q < 256) (hc : c < 256) (h : q ≠ c) : nI q ≠ nI c := fun e => h ((nI_eq (by omega) (by omega)).mp e)
section TextD
variable {d L : Nat} {I : Nat → Nat → Int32} {J : Nat → Nat → Int64} {tx : List Nat}
theorem c_fault_loop (hT : TxR I tx) (hS : SxR I) (Q : Option Value → Mem → Prop) : ∀ n k i t o, k + n = tx.length → i ≤ 6 → t ≤ 8 →
    (Wn (d + 6) i_Text_fault 9 [(0, .ref 1), (1, .int (nI i)), (2, .int (nI t)), (3, .int (bI o)), (4, .int (nI k))] [] (mm L I J) Q ↔ Q (some (.int (fI (flt tx n k i t o)))) (mm L I J)) := by
  have h200 := hT.2.1
  intro n
  induction n with
  | zero =>
    intro k i t o hk hi ht
    rw [H_Text_fault_9, mm_C, mm_I, if_pos CL1, hT.1, if_neg (nI_nlt (by omega) (by omega))]
    unfold flt
    cases o with
    | false => rw [if_pos (by rfl), if_neg (by decide)]; rfl
    | true =>
      rw [if_neg (by decide), if_pos CL1, if_pos rfl, show tx.length = k by omega]
      rfl
  | succ n ih =>
    intro k i t o hk hi ht
    obtain ⟨e1, e2⟩ := hT.2.2 k (by omega)
    have i0 : (0 : Int32) = nI 0 := by rw [nI_0]
    rw [H_Text_fault_9, mm_C, mm_I, mm_R, mm_L, if_pos CL1, hT.1, if_pos (nI_lt (by omega) (by omega)), if_pos CL1, RR1_0, if_neg (by omega), CL2, LN2, if_pos ⟨rfl, inb_nI (by omega) (by omega)⟩, ix_nI (by omega), e1]
    unfold flt
    by_cases q32 : tx.getD k 0 = 32
    · rw [if_pos (by rw [q32]; rfl), if_pos q32, nI_1, ih _ _ _ _ (by omega) hi ht]
    · have n32 : nI (tx.getD k 0) ≠ 32 := q_ne 32 e2 (by omega) q32
      rw [if_neg n32, if_neg q32]
      cases o with
      | false =>
        have b0 : bI false = 0 := rfl
        rw [b0, if_pos rfl, if_pos rfl, if_pos rfl, if_neg (show ¬ false = true by decide)]
        by_cases q104 : tx.getD k 0 = 104
        · rw [if_pos (by rw [q104]; rfl), if_pos q104]
          by_cases i6 : i < 6
          · have j6 : nI i < nI 6 := nI_lt i6 (by omega)
            have j6 : nI i < 6 := j6
            have b1 : (1 : Int32) = bI true := rfl
            rw [if_pos j6, if_pos i6, nI_1, nI_1]
            have := ih (k + 1) (i + 1) 0 true (by omega) (by omega) (by omega)
            rw [nI_0] at this
            exact this
          · have j6 : ¬ nI i < nI 6 := nI_nlt (by omega) (by omega)
            have j6 : ¬ nI i < 6 := j6
            rw [if_neg j6, if_neg i6]
            rfl
        · have n104 : nI (tx.getD k 0) ≠ 104 := q_ne 104 e2 (by omega) q104
          rw [if_neg n104, if_neg q104]
          rfl
      | true =>
        have b1 : bI true = 1 := rfl
        rw [b1, if_neg (by decide), if_pos rfl]
        by_cases q59 : tx.getD k 0 = 59
        · rw [if_pos (by rw [q59]; rfl), if_pos q59, nI_1]
          exact ih (k + 1) i t false (by omega) hi ht
        · have n59 : nI (tx.getD k 0) ≠ 59 := q_ne 59 e2 (by omega) q59
          rw [if_neg n59, if_neg q59, if_neg (by decide), c_isTL hS e2]
          rcases tn_NL (tx.getD k 0) with ⟨t1, t2, t3⟩ | ⟨t1, t2, t3⟩
          · rw [if_neg t2, if_neg (by decide), if_pos t1]
            by_cases t8 : t < 8
            · have j8 : nI t < nI 8 := nI_lt t8 (by omega)
              have j8 : nI t < 8 := j8
              rw [if_pos j8, if_pos t8, nI_1, nI_1]
              exact ih (k + 1) i (t + 1) true (by omega) hi (by omega)
            · have j8 : ¬ nI t < nI 8 := nI_nlt (by omega) (by omega)
              have j8 : ¬ nI t < 8 := j8
              rw [if_neg j8, if_neg t8, if_neg (by decide)]
              rfl
          · rw [if_pos t2, if_pos rfl, if_neg (by decide), if_neg (by omega)]
            rfl
theorem c_fault (hT : TxR I tx) (hS : SxR I) (Q : Int32 → Mem → Prop) : WI (d + 6) i_Text_fault [.ref 1] (mm L I J) Q ↔ Q (fI (flt tx tx.length 0 0 0 false)) (mm L I J) := by
  rw [E_Text_fault]
  have := c_fault_loop (d := d) (L := L) (J := J) hT hS (QI Q) tx.length 0 0 0 false (by omega) (by omega) (by omega)
  rw [nI_0] at this
  exact this
def tellF (tx : List Nat) : Nat → Nat → List (List Nat) → List (List Nat)
  | 0, _, ns => ns
  | n + 1, k, ns => tellF tx n (k + 1) (if tx.getD k 0 = 104 then ns ++ [[]] else if tnN (tx.getD k 0) < 6 then ns.set (ns.length - 1) (tie (nmO ns (ns.length - 1)) (tnN (tx.getD k 0))) else ns)
end TextD
section TextE
variable {d L : Nat} {J : Nat → Nat → Int64} {tx : List Nat}
theorem c_tell_loop (Q : Option Value → Mem → Prop) : ∀ (n k t : Nat) (o : Bool) (ns : List (List Nat)) (I : Nat → Nat → Int32), k + n = tx.length → TxR I tx → SxR I → Cl I 3 ns [] → flt tx n k ns.length t o = none → (o = true → ∃ h, ns.length = h + 1 ∧ (nmO ns h).length ≤ t) → t ≤ 8 → (∀ I', Cl I' 3 (tellF tx n k ns) [] → FrR 3 19 I I' → Q none (mm L I' J)) →
    Wn (d + 6) i_Text_tell 6 [(0, .ref 1), (1, .ref 3), (2, .int (nI k))] [] (mm L I J) Q := by
  intro n
  induction n with
  | zero =>
    intro k t o ns I hk hT hS hl hf ho ht h
    have h200 := hT.2.1
    rw [H_Text_tell_6, mm_C, mm_I, if_pos CL1, hT.1, if_neg (nI_nlt (by omega) (by omega))]
    exact h I hl (FrR_rf _ _ _)
  | succ n ih =>
    intro k t o ns I hk hT hS hl hf ho ht h
    have h200 := hT.2.1
    obtain ⟨e1, e2⟩ := hT.2.2 k (by omega)
    rw [H_Text_tell_6, mm_C, mm_I, mm_R, mm_L, if_pos CL1, hT.1, if_pos (nI_lt (by omega) (by omega)), if_pos CL1, RR1_0, if_neg (by omega), CL2, LN2, if_pos ⟨rfl, inb_nI (by omega) (by omega)⟩, ix_nI (by omega), e1]
    unfold tellF at h
    unfold flt at hf
    by_cases q104 : tx.getD k 0 = 104
    · rw [if_pos (by rw [q104]; rfl), if_pos CL3]
      rw [if_pos q104] at h
      rw [if_neg (by omega), if_pos q104] at hf
      have o0 : ¬ o = true := by
        intro o1
        rw [if_pos o1, if_neg (by omega), if_neg (by rw [q104]; decide)] at hf
        cases hf
      rw [if_neg o0] at hf
      by_cases i6 : ns.length < 6
      · rw [if_pos i6] at hf
        refine c_addH Cw_3 hl i6 _ (fun I' g1 g2 => ?_)
        rw [nI_1]
        refine ih (k + 1) 0 true (ns ++ [[]]) I' (by omega) (TxR_fr g2 (by omega) hT) (SxR_fr g2 (by omega) hS) g1 ?_ (fun _ => ⟨ns.length, ?_, ?_⟩) (by omega) (fun I'' f1 f2 => h I'' f1 (FrR_tr g2 f2))
        · rw [List.length_append]
          exact hf
        · rw [List.length_append]
          rfl
        · rw [nmO_end]
          exact Nat.le_refl _
      · rw [if_neg i6] at hf
        cases hf
    · have n104 : nI (tx.getD k 0) ≠ 104 := q_ne 104 e2 (by omega) q104
      rw [if_neg n104, c_isTL hS e2]
      rw [if_neg q104] at h
      rcases tn_NL (tx.getD k 0) with ⟨t1, t2, t3⟩ | ⟨t1, t2, t3⟩
      · have q32 : ¬ tx.getD k 0 = 32 := fun e => by rw [e] at t1; exact absurd t1 (by decide)
        have q59 : ¬ tx.getD k 0 = 59 := fun e => by rw [e] at t1; exact absurd t1 (by decide)
        rw [if_pos t1] at h
        rw [if_neg q32] at hf
        have o1 : o = true := by
          cases o with
          | true => rfl
          | false => rw [if_neg (by decide), if_neg q104] at hf; cases hf
        rw [if_pos o1, if_neg q59, if_pos t1] at hf
        obtain ⟨j, j1, j2⟩ := ho o1
        have t8 : t < 8 := by
          by_cases t8 : t < 8
          · exact t8
          · rw [if_neg t8] at hf; cases hf
        rw [if_pos t8] at hf
        have hlen := tie_len (nmO ns j) (tnN (tx.getD k 0))
        rw [if_neg t2, if_neg (by decide), mm_C, if_pos CLs, c_ixOf hS e2, mm_C, if_pos CL3, t3]
        rw [j1, Nat.add_sub_cancel] at h
        refine c_tieLast Cw_3 hl j1 t1 (by omega) _ (fun I' g1 g2 => ?_)
        rw [nI_1]
        refine ih (k + 1) (t + 1) true _ I' (by omega) (TxR_fr g2 (by omega) hT) (SxR_fr g2 (by omega) hS) g1 ?_ (fun _ => ⟨j, ?_, ?_⟩) (by omega) (fun I'' f1 f2 => h I'' f1 (FrR_tr g2 f2))
        · rw [List.length_set]
          exact hf
        · rw [List.length_set]
          exact j1
        · rw [nmO_set _ _ (by omega)]
          omega
      · rw [if_neg (by omega)] at h
        rw [if_pos t2, if_pos rfl, nI_1]
        by_cases q32 : tx.getD k 0 = 32
        · rw [if_pos q32] at hf
          exact ih (k + 1) t o ns I (by omega) hT hS hl hf ho ht h
        · rw [if_neg q32] at hf
          have o1 : o = true := by
            cases o with
            | true => rfl
            | false => rw [if_neg (by decide), if_neg q104] at hf; cases hf
          rw [if_pos o1] at hf
          by_cases q59 : tx.getD k 0 = 59
          · rw [if_pos q59] at hf
            exact ih (k + 1) t false ns I (by omega) hT hS hl hf (fun q => by cases q) ht h
          · rw [if_neg q59, if_neg (by omega)] at hf
            cases hf
theorem c_tell {I : Nat → Nat → Int32} (hT : TxR I tx) (hS : SxR I) (hf : flt tx tx.length 0 0 0 false = none) (Q : Mem → Prop) (h : ∀ I', Cl I' 3 (tellF tx tx.length 0 []) [] → FrR 3 19 I I' → Q (mm L I' J)) : WV (d + 6) i_Text_tell [.ref 1, .ref 3] (mm L I J) Q := by
  rw [E_Text_tell, mm_C, if_pos CL3]
  refine c_cempty Cw_3 _ (fun I' g1 g2 => ?_)
  have := c_tell_loop (d := d) (L := L) (J := J) (QV Q) tx.length 0 0 false [] I' (by omega) (TxR_fr g2 (by omega) hT) (SxR_fr g2 (by omega) hS) g1 hf (fun q => by cases q) (by omega) (fun I'' f1 f2 => h I'' f1 (FrR_tr g2 f2))
  rw [nI_0] at this
  exact this
theorem tellF_tg : ∀ (n k : Nat) (ns : List (List Nat)), (∀ h, Tg (nmO ns h)) → ∀ h, Tg (nmO (tellF tx n k ns) h) := by
  intro n
  induction n with
  | zero => intro k ns h; exact h
  | succ n ih =>
    intro k ns h
    unfold tellF
    apply ih
    intro j
    split
    · by_cases e : j < ns.length
      · rw [nmO_app _ _ e]; exact h j
      · by_cases e2 : j = ns.length
        · rw [e2, nmO_end]; exact Tg_nil
        · have : nmO (ns ++ [[]]) j = [] := by
            unfold nmO
            rw [List.getD_eq_getElem?_getD, List.getElem?_eq_none (by rw [List.length_append, List.length_singleton]; omega)]
            rfl
          rw [this]
          exact Tg_nil
    · split
      · by_cases e : ns.length - 1 = j
        · by_cases e3 : j < ns.length
          · rw [e, nmO_set _ _ e3]
            exact Tg_tie (h _) _
          · have : ns.set (ns.length - 1) (tie (nmO ns (ns.length - 1)) (tnN (tx.getD k 0))) = ns := List.set_eq_of_length_le (by omega)
            rw [this]
            exact h j
        · rw [nmO_setn _ _ e]
          exact h j
      · exact h j
end TextE
end
section
/-! ===== the class' state and its deeds ===== -/
theorem n1 : ¬ (1 : Nat) = 999999 := by decide
theorem n2 : ¬ (2 : Nat) = 999999 := by decide
theorem n3 : ¬ (3 : Nat) = 999999 := by decide
theorem n5 : ¬ (5 : Nat) = 999999 := by decide
theorem n19 : ¬ (19 : Nat) = 999999 := by decide
theorem n20 : ¬ (20 : Nat) = 999999 := by decide
theorem n181 : ¬ (181 : Nat) = 999999 := by decide
theorem n182 : ¬ (182 : Nat) = 999999 := by decide
theorem CL5 : CL 5 = 4 := by decide
theorem i10 : ¬ (1 : Int32) = 0 := by decide
def ImR (I : Nat → Nat → Int32) (im : Nat → Option Cp) : Prop := ∀ m, m < 2 → I 182 m = bI (im m).isSome ∧ ∀ p, im m = some p → Cl I (216 + 16 * m) p.1 p.2
theorem ImR_fr {I I' : Nat → Nat → Int32} {lo hi : Nat} {im : Nat → Option Cp} (hF : FrR lo hi I I') (hc : hi ≤ 182 ∨ 248 ≤ lo ∨ (183 ≤ lo ∧ hi ≤ 216)) (h : ImR I im) : ImR I' im := by
  intro m hm
  obtain ⟨h1, h2⟩ := h m hm
  refine ⟨by rw [hF 182 (by omega)]; exact h1, fun p hp => Cl_fr hF (by omega) (h2 p hp)⟩
def ClR (I : Nat → Nat → Int32) (J : Nat → Nat → Int64) (ns : List (List Nat)) (ct : List Nat) (ps : List Cp) (im : Nat → Option Cp) (tx : List Nat) (tr : Int64) : Prop := Cl I 3 ns ct ∧ (∃ w, PcR I w ps) ∧ TxR I tx ∧ SxR I ∧ ImR I im ∧ J 0 11 = tr
section KN1
variable {d L : Nat} {I : Nat → Nat → Int32} {J : Nat → Nat → Int64} {ns : List (List Nat)} {ct : List Nat} {ps : List Cp} {im : Nat → Option Cp} {tx : List Nat} {tr : Int64}
theorem ClR_sc {I' : Nat → Nat → Int32} {lo hi : Nat} (h : ClR I J ns ct ps im tx tr) (hF : FrR lo hi I I') (h1 : 183 ≤ lo) (h2 : hi ≤ 216) : ClR I' J ns ct ps im tx tr := by
  obtain ⟨a1, ⟨w, a2⟩, a3, a4, a5, a6⟩ := h
  exact ⟨Cl_fr hF (by omega) a1, ⟨w, PcR_fr hF (by omega) a2⟩, TxR_fr hF (by omega) a3, SxR_fr hF (by omega) a4, ImR_fr hF (by omega) a5, a6⟩
/-- the class remembers -/
theorem k_rem (h : ClR I J ns ct ps im tx tr) (Q : Mem → Prop) (hq : ∀ I', ClR I' J ns ct (((ns, ct) :: ps).take 10) im tx tr → FrR 0 248 I I' → Q (mm L I' J)) : WV (d + 3) i_Past_remember [.ref 19, .ref 3] (mm L I J) Q := by
  obtain ⟨a1, ⟨w, a2⟩, a3, a4, a5, a6⟩ := h
  refine c_rem a2 a1 _ (fun I' w' g1 g2 => ?_)
  exact hq I' ⟨Cl_fr g2 (by omega) a1, ⟨w', g1⟩, TxR_fr g2 (by omega) a3, SxR_fr g2 (by omega) a4, ImR_fr g2 (by omega) a5, a6⟩ (FrR_w g2 (by omega) (by omega))
theorem ClR_cur {I' : Nat → Nat → Int32} {ns' : List (List Nat)} {ct' : List Nat} (h : ClR I J ns ct ps im tx tr) (hF : FrR 3 19 I I') (hl : Cl I' 3 ns' ct') : ClR I' J ns' ct' ps im tx tr := by
  obtain ⟨a1, ⟨w, a2⟩, a3, a4, a5, a6⟩ := h
  exact ⟨hl, ⟨w, PcR_fr hF (by omega) a2⟩, TxR_fr hF (by omega) a3, SxR_fr hF (by omega) a4, ImR_fr hF (by omega) a5, a6⟩
theorem k_typeN (x : Int32) (hx : x < 0 ∨ 255 < x) (M : Mem) (Q : Int32 → Mem → Prop) : WI (d + 1) i_KN_type [.ref 0, .int x] M Q ↔ Q (-1) M := by
  have hn : ¬ (0 ≤ x ∧ x ≤ 255) := fun q => hx.elim (fun h => absurd h (Int32.not_lt.mpr q.1)) (fun h => absurd h (Int32.not_lt.mpr q.2))
  rw [E_KN_type, c_within, decide_eq_false hn, if_pos (by rfl)]
theorem c255 {q : Nat} (hq : q < 256) : decide ((0 : Int32) ≤ nI q ∧ nI q ≤ 255) = true := by
  have h1 : nI q ≤ nI 255 := nI_le (by omega) (by omega)
  exact decide_eq_true ⟨nI_pos' (by omega), h1⟩
theorem k_typeF (h : ClR I J ns ct ps im tx tr) {q : Nat} (hq : q < 256) (hl : tx.length = 200) (Q : Int32 → Mem → Prop) : WI (d + 1) i_KN_type [.ref 0, .int (nI q)] (mm L I J) Q ↔ Q (-3) (mm L I J) := by
  have t1 := h.2.2.1.1
  have e : ¬ nI tx.length < 200 := by rw [hl]; decide
  rw [E_KN_type, c_within, c255 hq, if_neg (by decide)]
  simp only [mm_C, mm_R, mm_L, mm_I, mm_sI, CL0, CL1, CL3, CL5, CL19, RR0_0, RR0_1, RR0_2, RR3_1, n1, n3, n5, n19, ↓reduceIte]
  rw [E_Text_append]
  simp only [mm_C, mm_R, mm_L, mm_I, mm_sI, CL0, CL1, CL3, CL5, CL19, RR0_0, RR0_1, RR0_2, RR3_1, n1, n3, n5, n19, ↓reduceIte, t1]
  rw [if_neg e]
theorem k_typeY (h : ClR I J ns ct ps im tx tr) {q : Nat} (hq : q < 256) (hl : tx.length < 200) (Q : Int32 → Mem → Prop) (hQ : ∀ I', ClR I' J ns ct ps im (tx ++ [q]) tr → FrR 0 248 I I' → Q (nI (tx.length + 1)) (mm L I' J)) : WI (d + 1) i_KN_type [.ref 0, .int (nI q)] (mm L I J) Q := by
  obtain ⟨a1, ⟨w, a2⟩, a3, a4, a5, a6⟩ := id h
  have t1 := a3.1
  have e : nI tx.length < nI 200 := nI_lt hl (by omega)
  have e : nI tx.length < 200 := e
  have ech : vp_nar .char (Int32.toUInt32 (nI q) % 65536).toInt32 = nI q := by
    rw [pk_vc, pk_char, pk_tn (by omega), Nat.mod_eq_of_lt (by omega)]
  have u1 : up2 I 2 tx.length (nI q) 1 1 = nI tx.length := by rw [up2_ne _ _ _ (by omega)]; exact t1
  rw [E_KN_type, c_within, c255 hq, if_neg (by decide)]
  simp only [mm_C, mm_R, mm_L, mm_I, mm_sI, CL0, CL1, CL3, CL5, CL19, RR0_0, RR0_1, RR0_2, RR3_1, n1, n3, n5, n19, ↓reduceIte]
  rw [E_Text_append]
  simp only [mm_C, mm_R, mm_L, mm_I, mm_sI, CL0, CL1, CL3, CL5, CL19, RR0_0, RR0_1, RR0_2, RR3_1, n1, n3, n5, n19, ↓reduceIte, t1, CL2, LN2, RR1_0, n2, ech]
  rw [if_pos e, if_pos ⟨trivial, inb_nI (by omega) (by omega)⟩, ix_nI (by omega), if_neg i10, up2_same, u1, nI_1]
  have hF : FrR 1 3 I (up2 (up2 I 2 tx.length (nI q)) 1 1 (nI (tx.length + 1))) := FrR_tr (FrR_u (by omega) (by omega)) (FrR_u (by omega) (by omega))
  refine hQ _ ⟨Cl_fr hF (by omega) a1, ⟨w, PcR_fr hF (by omega) a2⟩, ⟨?_, ?_, fun k hk => ?_⟩, SxR_fr hF (by omega) a4, ImR_fr hF (by omega) a5, a6⟩ (FrR_w hF (by omega) (by omega))
  · rw [up2_same, List.length_append]
    rfl
  · rw [List.length_append, List.length_singleton]
    omega
  · rw [List.length_append, List.length_singleton] at hk
    rw [up2_ne _ _ _ (by omega)]
    by_cases e2 : k = tx.length
    · rw [e2, up2_same, getD_end]
      exact ⟨rfl, hq⟩
    · rw [up2_other _ _ _ e2, getD_app (by omega)]
      exact a3.2.2 k (by omega)
theorem ClR_tx0 (h : ClR I J ns ct ps im tx tr) : ClR (up2 I 1 1 0) J ns ct ps im [] tr := by
  obtain ⟨a1, ⟨w, a2⟩, a3, a4, a5, a6⟩ := h
  have hF : FrR 1 3 I (up2 I 1 1 0) := FrR_u (by omega) (by omega)
  exact ⟨Cl_fr hF (by omega) a1, ⟨w, PcR_fr hF (by omega) a2⟩, ⟨by rw [up2_same]; rfl, Nat.zero_le _, fun k hk => absurd hk (Nat.not_lt_zero k)⟩, SxR_fr hF (by omega) a4, ImR_fr hF (by omega) a5, a6⟩
theorem k_clear (h : ClR I J ns ct ps im tx tr) (Q : Int32 → Mem → Prop) (hQ : ∀ I', ClR I' J ns ct ps im [] tr → FrR 0 248 I I' → Q (nI tx.length) (mm L I' J)) : WI (d + 1) i_KN_clear [.ref 0] (mm L I J) Q := by
  have t1 := h.2.2.1.1
  rw [E_KN_clear]
  simp only [mm_C, mm_R, mm_L, mm_I, mm_sI, CL0, CL1, CL3, CL5, CL19, RR0_0, RR0_1, RR0_2, RR3_1, n1, n3, n5, n19, ↓reduceIte, t1]
  rw [E_Text_empty]
  simp only [mm_C, mm_R, mm_L, mm_I, mm_sI, CL0, CL1, CL3, CL5, CL19, RR0_0, RR0_1, RR0_2, RR3_1, n1, n3, n5, n19, ↓reduceIte]
  exact hQ _ (ClR_tx0 h) (FrR_u (by omega) (by omega))
theorem k_count (h : ClR I J ns ct ps im tx tr) (x : Int32) (Q : Int32 → Mem → Prop) : WI d i_KN_count [.ref 0, .int x] (mm L I J) Q ↔ Q (if Int32.toInt x = 0 then nI ns.length else if Int32.toInt x = 1 then nI tx.length else -1) (mm L I J) := by
  have t1 := h.2.2.1.1
  have t2 := h.1.1
  rw [E_KN_count]
  simp only [mm_C, mm_R, mm_L, mm_I, mm_sI, CL0, CL1, CL3, CL5, CL19, RR0_0, RR0_1, RR0_2, RR3_1, n1, n3, n5, n19, ↓reduceIte, t1, t2]
  rw [pif (Q := Q), pif (Q := Q)]
theorem k_trace (h : ClR I J ns ct ps im tx tr) (Q : Int64 → Mem → Prop) : WL d i_KN_trace [.ref 0] (mm L I J) Q ↔ Q tr (mm L I J) := by
  have t1 := h.2.2.2.2.2
  rw [E_KN_trace]
  simp only [mm_C, mm_R, mm_L, mm_I, mm_sI, CL0, CL1, CL3, CL5, CL19, RR0_0, RR0_1, RR0_2, RR3_1, n1, n3, n5, n19, ↓reduceIte, mm_J, t1]
/-- a length, or a turn -/
def lot (l : List Nat) (x : Int32) : Int32 := if x = -1 then nI l.length else if 0 ≤ x ∧ x ≤ nI l.length - 1 then nI (l.getD x.toNatClampNeg 0) else -1
theorem c_lot {r cp : Nat} {l : List Nat} (hr : Rw r cp) (hl : Rl I r l) (hc : l.length ≤ cp) (x : Int32) (Q : Int32 → Mem → Prop) : WI (d + 1) i_KN_lengthOrTurn [.ref r, .int x] (mm L I J) Q ↔ Q (lot l x) (mm L I J) := by
  have hcp := hr.2.2.2.2.2
  rw [E_KN_lengthOrTurn, mm_C, mm_I, if_pos hr.1, if_pos hr.1, hl.1, c_within]
  unfold lot
  by_cases e : x = -1
  · rw [if_pos e, if_pos e]
  · rw [if_neg e, if_neg e]
    by_cases e2 : 0 ≤ x ∧ x ≤ nI l.length - 1
    · rw [decide_eq_true e2, if_neg (by decide), if_pos e2, mm_C, if_pos hr.1]
      have h0 : 0 < l.length := by
        by_cases h0 : 0 < l.length
        · exact h0
        · exfalso
          have : l.length = 0 := by omega
          rw [this] at e2
          exact absurd (Int32.le_trans e2.1 e2.2) (by decide)
      rw [nI_m1 h0] at e2
      obtain ⟨j, j1, j2⟩ := nI_of (Int32.not_lt.mpr e2.1)
      rw [j2] at e2
      have j3 := (nI_leI j1 (by omega)).mp e2.2
      rw [j2, c_at hr hl hc j1, gt_lt (by omega), ix_nI j1]
    · rw [decide_eq_false e2, if_pos (by rfl), if_neg e2]
theorem k_nameN (h : ClR I J ns ct ps im tx tr) {x : Int32} (hx : x < 0 ∨ nI ns.length ≤ x) (y : Int32) (Q : Int32 → Mem → Prop) : WI (d + 2) i_KN_name [.ref 0, .int x, .int y] (mm L I J) Q ↔ Q (-1) (mm L I J) := by
  rw [E_KN_name]
  simp only [mm_C, mm_R, mm_L, mm_I, mm_sI, CL0, CL1, CL3, CL5, CL19, RR0_0, RR0_1, RR0_2, RR3_1, n1, n3, n5, n19, ↓reduceIte]
  rw [c_hasN Cw_3 h.1 hx, if_pos rfl]
theorem k_nameY (h : ClR I J ns ct ps im tx tr) {j : Nat} (hj : j < ns.length) (y : Int32) (Q : Int32 → Mem → Prop) : WI (d + 2) i_KN_name [.ref 0, .int (nI j), .int y] (mm L I J) Q ↔ Q (lot (nmO ns j) y) (mm L I J) := by
  have h6 := h.1.2.1
  have hr := h.1.2.2.1 j hj
  have hw := Cw_3.2.2.2.2.2.2.2 j (by omega)
  rw [E_KN_name]
  simp only [mm_C, mm_R, mm_L, mm_I, mm_sI, CL0, CL1, CL3, CL5, CL19, RR0_0, RR0_1, RR0_2, RR3_1, n1, n3, n5, n19, ↓reduceIte]
  rw [c_hasY Cw_3 h.1 hj, if_neg i10]
  simp only [mm_C, mm_R, mm_L, mm_I, mm_sI, CL0, CL1, CL3, CL5, CL19, RR0_0, RR0_1, RR0_2, RR3_1, n1, n3, n5, n19, ↓reduceIte]
  rw [c_nameOf Cw_3 (by omega), c_lot hw.2 hr.1 hr.2]
theorem k_contract (h : ClR I J ns ct ps im tx tr) (y : Int32) (Q : Int32 → Mem → Prop) : WI (d + 2) i_KN_contract [.ref 0, .int y] (mm L I J) Q ↔ Q (lot ct y) (mm L I J) := by
  rw [E_KN_contract]
  simp only [mm_C, mm_R, mm_L, mm_I, mm_sI, CL0, CL1, CL3, CL5, CL19, RR0_0, RR0_1, RR0_2, RR3_1, n1, n3, n5, n19, ↓reduceIte]
  exact c_lot (r := 5) Cw_3.2.2.2.2.2.2.1 h.1.2.2.2.1 h.1.2.2.2.2 y Q
theorem k_now (h : ClR I J ns ct ps im tx tr) (x : Int32) (Q : Int32 → Mem → Prop) : WI (d + 5) i_KN_now [.ref 0, .int x] (mm L I J) Q ↔ Q (if Int32.toInt x = 0 then bts (namP ns) ns.length 0 0 else if Int32.toInt x = 1 then nI (cnt (unlP ns) ns.length 0) else if Int32.toInt x = 2 then nI (sumL ns ns.length 0) else if Int32.toInt x = 3 then nI ps.length else -1) (mm L I J) := by
  obtain ⟨a1, ⟨w, a2⟩, a3, a4, a5, a6⟩ := id h
  have t2 := a2.2.2.1
  rw [E_KN_now]
  simp only [mm_C, mm_R, mm_L, mm_I, mm_sI, CL0, CL1, CL3, CL5, CL19, RR0_0, RR0_1, RR0_2, RR3_1, n1, n3, n5, n19, ↓reduceIte, t2]
  rw [c_named Cw_3 a1, c_unl Cw_3 a1, c_turns Cw_3 a1, pif (Q := Q), pif (Q := Q), pif (Q := Q), pif (Q := Q)]
theorem k_undo0 (h : ClR I J ns ct [] im tx tr) (Q : Int32 → Mem → Prop) : WI (d + 4) i_KN_undo [.ref 0] (mm L I J) Q ↔ Q (-2) (mm L I J) := by
  obtain ⟨a1, ⟨w, a2⟩, a3, a4, a5, a6⟩ := id h
  have t2 : I 19 2 = nI 0 := a2.2.2.1
  rw [E_KN_undo]
  simp only [mm_C, mm_R, mm_L, mm_I, mm_sI, CL0, CL1, CL3, CL5, CL19, RR0_0, RR0_1, RR0_2, RR3_1, n1, n3, n5, n19, ↓reduceIte, t2]
  rw [if_pos (by decide)]
theorem k_undo {p : Cp} (h : ClR I J ns ct (p :: ps) im tx tr) (Q : Int32 → Mem → Prop) (hQ : ∀ I', ClR I' J p.1 p.2 ps im tx tr → FrR 0 248 I I' → Q (nI ps.length) (mm L I' J)) : WI (d + 4) i_KN_undo [.ref 0] (mm L I J) Q := by
  obtain ⟨a1, ⟨w, a2⟩, a3, a4, a5, a6⟩ := id h
  have t2 : I 19 2 = nI (ps.length + 1) := a2.2.2.1
  have t3 : (p :: ps).length ≤ 10 := a2.2.2.2.1
  rw [List.length_cons] at t3
  rw [E_KN_undo]
  simp only [mm_C, mm_R, mm_L, mm_I, mm_sI, CL0, CL1, CL3, CL5, CL19, RR0_0, RR0_1, RR0_2, RR3_1, n1, n3, n5, n19, ↓reduceIte, t2]
  rw [if_neg (nI_ne0 (by omega) (by omega))]
  refine c_takeBack a2 _ (fun I' w' g1 g2 g3 => ?_)
  simp only [mm_C, mm_R, mm_L, mm_I, mm_sI, CL0, CL1, CL3, CL5, CL19, RR0_0, RR0_1, RR0_2, RR3_1, n1, n3, n5, n19, ↓reduceIte, g2.2.2.1]
  exact hQ I' ⟨g1, ⟨w', g2⟩, TxR_fr g3 (by omega) a3, SxR_fr g3 (by omega) a4, ImR_fr g3 (by omega) a5, a6⟩ (FrR_w g3 (by omega) (by omega))
end KN1
end
section
section KN2
variable {d L : Nat} {I : Nat → Nat → Int32} {J : Nat → Nat → Int64} {ns : List (List Nat)} {ct : List Nat} {ps : List Cp} {im : Nat → Option Cp} {tx : List Nat} {tr : Int64}
theorem w3 {j : Nat} (hj : j < 6) : Rw (7 + 2 * j) 12 := (Cw_3.2.2.2.2.2.2.2 j hj).2
theorem w5 : Rw 5 12 := Cw_3.2.2.2.2.2.2.1
theorem r3 (h : Cl I 3 ns ct) {j : Nat} (hj : j < ns.length) : Rl I (7 + 2 * j) (nmO ns j) := (h.2.2.1 j hj).1
theorem l3 (h : Cl I 3 ns ct) {j : Nat} (hj : j < ns.length) : (nmO ns j).length ≤ 12 := (h.2.2.1 j hj).2
theorem r5 (h : Cl I 3 ns ct) : Rl I 5 ct := h.2.2.2.1
theorem c_name3 {j : Nat} (hj : j < 6) (Q : Nat → Mem → Prop) : WA d i_Camp_nameOf [.ref 3, .int (nI j)] (mm L I J) Q ↔ Q (7 + 2 * j) (mm L I J) := c_nameOf Cw_3 hj Q
theorem set3 {I' : Nat → Nat → Int32} {j : Nat} {x : List Nat} (hl : Cl I 3 ns ct) (hh : j < ns.length) (hF : Fr1 (7 + 2 * j) I I') (hx : Rl I' (7 + 2 * j) x) (hx2 : x.length ≤ 12) : Cl I' 3 (ns.set j x) ct := Cl_set hl hh hF hx hx2
theorem con3 {I' : Nat → Nat → Int32} {x : List Nat} (hl : Cl I 3 ns ct) (hF : Fr1 5 I I') (hx : Rl I' 5 x) (hx2 : x.length ≤ 12) : Cl I' 3 ns x := Cl_con hl hF hx hx2
theorem c_isTurnY {t : Nat} (ht : t < 6) (M : Mem) (Q : Int32 → Mem → Prop) : WI (d + 1) i_KN_isTurn [.int (nI t)] M Q ↔ Q 1 M := by
  have h1 : nI t ≤ nI 5 := nI_le (by omega) (by omega)
  have h1 : nI t ≤ 5 := h1
  rw [E_KN_isTurn, c_within, decide_eq_true ⟨nI_pos' (by omega), h1⟩, if_pos (by right; rfl)]
  exact Iff.rfl
theorem c_isTurnN {x : Int32} (hx : x < 0 ∨ 6 ≤ x) (M : Mem) (Q : Int32 → Mem → Prop) : WI (d + 1) i_KN_isTurn [.int x] M Q ↔ Q 0 M := by
  have hn : ¬ (0 ≤ x ∧ x ≤ 5) := fun q => hx.elim (fun h => absurd h (Int32.not_lt.mpr q.1)) (fun h => absurd (Int32.le_trans h q.2) (by decide))
  rw [E_KN_isTurn, c_within, decide_eq_false hn, if_pos (by left; rfl)]
  exact Iff.rfl
def fitB (l : List Nat) (t : Nat) : Prop := l.length < 12 ∨ l.getLast? = some (t ^^^ 1)
theorem fit_len {l : List Nat} {t : Nat} (h : fitB l t) (hl : l.length ≤ 12) : (tie l t).length ≤ 12 := by
  have := tie_len l t
  rcases h with h | h
  · omega
  · unfold tie
    rw [if_pos h, List.length_dropLast]
    omega
theorem k_tiesN (h : ClR I J ns ct ps im tx tr) {x y : Int32} (hx : x < 0 ∨ nI ns.length ≤ x) (Q : Int32 → Mem → Prop) : WI (d + 2) i_KN_ties [.ref 0, .int x, .int y] (mm L I J) Q ↔ Q (-1) (mm L I J) := by
  rw [E_KN_ties]
  simp only [mm_C, mm_R, mm_L, mm_I, mm_sI, CL0, CL1, CL3, CL5, CL19, RR0_0, RR0_1, RR0_2, RR3_1, n1, n3, n5, n19, ↓reduceIte]
  rw [c_hasN Cw_3 h.1 hx, if_pos rfl]
theorem k_tiesN2 (h : ClR I J ns ct ps im tx tr) {j : Nat} (hj : j < ns.length) {y : Int32} (hy : y < 0 ∨ 6 ≤ y) (Q : Int32 → Mem → Prop) : WI (d + 2) i_KN_ties [.ref 0, .int (nI j), .int y] (mm L I J) Q ↔ Q (-1) (mm L I J) := by
  rw [E_KN_ties]
  simp only [mm_C, mm_R, mm_L, mm_I, mm_sI, CL0, CL1, CL3, CL5, CL19, RR0_0, RR0_1, RR0_2, RR3_1, n1, n3, n5, n19, ↓reduceIte]
  rw [c_hasY Cw_3 h.1 hj, if_neg i10, c_isTurnN hy, if_pos rfl]
theorem k_tiesF (h : ClR I J ns ct ps im tx tr) {j : Nat} (hj : j < ns.length) {t : Nat} (ht : t < 6) (hf : ¬ fitB (nmO ns j) t) (Q : Int32 → Mem → Prop) : WI (d + 4) i_KN_ties [.ref 0, .int (nI j), .int (nI t)] (mm L I J) Q ↔ Q (-3) (mm L I J) := by
  have h6 := h.1.2.1
  rw [E_KN_ties]
  simp only [mm_C, mm_R, mm_L, mm_I, mm_sI, CL0, CL1, CL3, CL5, CL19, RR0_0, RR0_1, RR0_2, RR3_1, n1, n3, n5, n19, ↓reduceIte]
  rw [c_hasY Cw_3 h.1 hj, if_neg i10, c_isTurnY ht, if_neg i10]
  simp only [mm_C, mm_R, mm_L, mm_I, mm_sI, CL0, CL1, CL3, CL5, CL19, RR0_0, RR0_1, RR0_2, RR3_1, n1, n3, n5, n19, ↓reduceIte]
  have hf2 : ¬ ((nmO ns j).length < 12 ∨ (nmO ns j).getLast? = some (t ^^^ 1)) := hf
  rw [c_name3 (by omega), mm_C, if_pos (w3 (by omega)).1, c_takes (w3 (by omega)) (r3 h.1 hj) (l3 h.1 hj) ht, if_pos (if_neg hf2)]
theorem k_tiesY (h : ClR I J ns ct ps im tx tr) {j : Nat} (hj : j < ns.length) {t : Nat} (ht : t < 6) (hf : fitB (nmO ns j) t) (Q : Int32 → Mem → Prop) (hQ : ∀ I', ClR I' J (ns.set j (tie (nmO ns j) t)) ct (((ns, ct) :: ps).take 10) im tx tr → FrR 0 248 I I' → Q (nI (tie (nmO ns j) t).length) (mm L I' J)) : WI (d + 4) i_KN_ties [.ref 0, .int (nI j), .int (nI t)] (mm L I J) Q := by
  have h6 := h.1.2.1
  have w := w3 (show j < 6 by omega)
  have hx := fit_len hf (l3 h.1 hj)
  rw [E_KN_ties]
  simp only [mm_C, mm_R, mm_L, mm_I, mm_sI, CL0, CL1, CL3, CL5, CL19, RR0_0, RR0_1, RR0_2, RR3_1, n1, n3, n5, n19, ↓reduceIte]
  rw [c_hasY Cw_3 h.1 hj, if_neg i10, c_isTurnY ht, if_neg i10]
  simp only [mm_C, mm_R, mm_L, mm_I, mm_sI, CL0, CL1, CL3, CL5, CL19, RR0_0, RR0_1, RR0_2, RR3_1, n1, n3, n5, n19, ↓reduceIte]
  have hf2 : (nmO ns j).length < 12 ∨ (nmO ns j).getLast? = some (t ^^^ 1) := hf
  rw [c_name3 (by omega), mm_C, if_pos w.1, c_takes w (r3 h.1 hj) (l3 h.1 hj) ht, if_neg (show ¬ (if (nmO ns j).length < 12 ∨ (nmO ns j).getLast? = some (t ^^^ 1) then (1 : Int32) else 0) = 0 by rw [if_pos hf2]; decide)]
  simp only [mm_C, mm_R, mm_L, mm_I, mm_sI, CL0, CL1, CL3, CL5, CL19, RR0_0, RR0_1, RR0_2, RR3_1, n1, n3, n5, n19, ↓reduceIte]
  refine k_rem h _ (fun I' g1 g2 => ?_)
  rw [mm_C, if_pos w.1]
  refine c_tie w (r3 g1.1 hj) (l3 g1.1 hj) hx ht _ (fun I'' f1 f2 => ?_)
  rw [mm_C, if_pos w.1, mm_I, f1.1]
  exact hQ I'' (ClR_cur g1 (FrR_1 f2 (by omega) (by omega)) (set3 g1.1 hj f2 f1 hx)) (FrR_tr g2 (FrR_1 f2 (by omega) (by omega)))
theorem k_looN (h : ClR I J ns ct ps im tx tr) {x : Int32} (hx : x < 0 ∨ nI ns.length ≤ x) (Q : Int32 → Mem → Prop) : WI (d + 2) i_KN_loosens [.ref 0, .int x] (mm L I J) Q ↔ Q (-1) (mm L I J) := by
  rw [E_KN_loosens]
  simp only [mm_C, mm_R, mm_L, mm_I, mm_sI, CL0, CL1, CL3, CL5, CL19, RR0_0, RR0_1, RR0_2, RR3_1, n1, n3, n5, n19, ↓reduceIte]
  rw [c_hasN Cw_3 h.1 hx, if_pos rfl]
theorem k_looE (h : ClR I J ns ct ps im tx tr) {j : Nat} (hj : j < ns.length) (h0 : (nmO ns j).length = 0) (Q : Int32 → Mem → Prop) : WI (d + 4) i_KN_loosens [.ref 0, .int (nI j)] (mm L I J) Q ↔ Q (-2) (mm L I J) := by
  have h6 := h.1.2.1
  have w := w3 (show j < 6 by omega)
  rw [E_KN_loosens]
  simp only [mm_C, mm_R, mm_L, mm_I, mm_sI, CL0, CL1, CL3, CL5, CL19, RR0_0, RR0_1, RR0_2, RR3_1, n1, n3, n5, n19, ↓reduceIte]
  rw [c_hasY Cw_3 h.1 hj, if_neg i10]
  simp only [mm_C, mm_R, mm_L, mm_I, mm_sI, CL0, CL1, CL3, CL5, CL19, RR0_0, RR0_1, RR0_2, RR3_1, n1, n3, n5, n19, ↓reduceIte]
  rw [c_name3 (by omega), mm_C, if_pos w.1, mm_I, (r3 h.1 hj).1, h0, if_pos (by decide)]
theorem k_looY (h : ClR I J ns ct ps im tx tr) {j : Nat} (hj : j < ns.length) (h0 : 0 < (nmO ns j).length) (Q : Int32 → Mem → Prop) (hQ : ∀ I', ClR I' J (ns.set j (nmO ns j).dropLast) ct (((ns, ct) :: ps).take 10) im tx tr → FrR 0 248 I I' → Q (nI ((nmO ns j).getD ((nmO ns j).length - 1) 0)) (mm L I' J)) : WI (d + 4) i_KN_loosens [.ref 0, .int (nI j)] (mm L I J) Q := by
  have h6 := h.1.2.1
  have w := w3 (show j < 6 by omega)
  have l12 := l3 h.1 hj
  rw [E_KN_loosens]
  simp only [mm_C, mm_R, mm_L, mm_I, mm_sI, CL0, CL1, CL3, CL5, CL19, RR0_0, RR0_1, RR0_2, RR3_1, n1, n3, n5, n19, ↓reduceIte]
  rw [c_hasY Cw_3 h.1 hj, if_neg i10]
  simp only [mm_C, mm_R, mm_L, mm_I, mm_sI, CL0, CL1, CL3, CL5, CL19, RR0_0, RR0_1, RR0_2, RR3_1, n1, n3, n5, n19, ↓reduceIte]
  rw [c_name3 (by omega), mm_C, if_pos w.1, mm_I, (r3 h.1 hj).1, if_neg (nI_ne0 h0 (by omega))]
  simp only [mm_C, mm_R, mm_L, mm_I, mm_sI, CL0, CL1, CL3, CL5, CL19, RR0_0, RR0_1, RR0_2, RR3_1, n1, n3, n5, n19, ↓reduceIte]
  refine k_rem h _ (fun I' g1 g2 => ?_)
  rw [mm_C, if_pos w.1, c_last w (r3 g1.1 hj) (l3 g1.1 hj) h0, mm_C, if_pos w.1]
  refine c_dropLast w (r3 g1.1 hj) (l3 g1.1 hj) _ (fun I'' f1 f2 => ?_)
  exact hQ I'' (ClR_cur g1 (FrR_1 f2 (by omega) (by omega)) (set3 g1.1 hj f2 f1 (by rw [List.length_dropLast]; omega))) (FrR_tr g2 (FrR_1 f2 (by omega) (by omega)))
theorem k_untN (h : ClR I J ns ct ps im tx tr) {x : Int32} (hx : x < 0 ∨ nI ns.length ≤ x) (Q : Int32 → Mem → Prop) : WI (d + 2) i_KN_unties [.ref 0, .int x] (mm L I J) Q ↔ Q (-1) (mm L I J) := by
  rw [E_KN_unties]
  simp only [mm_C, mm_R, mm_L, mm_I, mm_sI, CL0, CL1, CL3, CL5, CL19, RR0_0, RR0_1, RR0_2, RR3_1, n1, n3, n5, n19, ↓reduceIte]
  rw [c_hasN Cw_3 h.1 hx, if_pos rfl]
theorem k_untY (h : ClR I J ns ct ps im tx tr) {j : Nat} (hj : j < ns.length) (Q : Int32 → Mem → Prop) (hQ : ∀ I', ClR I' J (ns.set j []) ct (((ns, ct) :: ps).take 10) im tx tr → FrR 0 248 I I' → Q (nI (nmO ns j).length) (mm L I' J)) : WI (d + 4) i_KN_unties [.ref 0, .int (nI j)] (mm L I J) Q := by
  have h6 := h.1.2.1
  have w := w3 (show j < 6 by omega)
  rw [E_KN_unties]
  simp only [mm_C, mm_R, mm_L, mm_I, mm_sI, CL0, CL1, CL3, CL5, CL19, RR0_0, RR0_1, RR0_2, RR3_1, n1, n3, n5, n19, ↓reduceIte]
  rw [c_hasY Cw_3 h.1 hj, if_neg i10]
  simp only [mm_C, mm_R, mm_L, mm_I, mm_sI, CL0, CL1, CL3, CL5, CL19, RR0_0, RR0_1, RR0_2, RR3_1, n1, n3, n5, n19, ↓reduceIte]
  refine k_rem h _ (fun I' g1 g2 => ?_)
  simp only [mm_C, mm_R, mm_L, mm_I, mm_sI, CL0, CL1, CL3, CL5, CL19, RR0_0, RR0_1, RR0_2, RR3_1, n1, n3, n5, n19, ↓reduceIte]
  rw [c_name3 (by omega), mm_C, if_pos w.1]
  refine c_empty w (r3 g1.1 hj) _ (fun I'' f1 f2 => ?_)
  exact hQ I'' (ClR_cur g1 (FrR_1 f2 (by omega) (by omega)) (set3 g1.1 hj f2 f1 (Nat.zero_le _))) (FrR_tr g2 (FrR_1 f2 (by omega) (by omega)))
theorem k_addN {x : Int32} (hx : x < 0 ∨ 6 ≤ x) (M : Mem) (Q : Int32 → Mem → Prop) : WI (d + 2) i_KN_adds [.ref 0, .int x] M Q ↔ Q (-1) M := by
  rw [E_KN_adds, c_isTurnN hx, if_pos rfl]
theorem k_addF (h : ClR I J ns ct ps im tx tr) {t : Nat} (ht : t < 6) (hf : ct.length = 12) (Q : Int32 → Mem → Prop) : WI (d + 4) i_KN_adds [.ref 0, .int (nI t)] (mm L I J) Q ↔ Q (-3) (mm L I J) := by
  have e : I 5 1 = nI 12 := by rw [(r5 h.1).1, hf]
  rw [E_KN_adds, c_isTurnY ht, if_neg i10]
  simp only [mm_C, mm_R, mm_L, mm_I, mm_sI, CL0, CL1, CL3, CL5, CL19, RR0_0, RR0_1, RR0_2, RR3_1, n1, n3, n5, n19, ↓reduceIte, e]
  rw [if_neg (by decide)]
theorem k_addY (h : ClR I J ns ct ps im tx tr) {t : Nat} (ht : t < 6) (hf : ct.length < 12) (Q : Int32 → Mem → Prop) (hQ : ∀ I', ClR I' J ns (ct ++ [t]) (((ns, ct) :: ps).take 10) im tx tr → FrR 0 248 I I' → Q (nI (ct.length + 1)) (mm L I' J)) : WI (d + 4) i_KN_adds [.ref 0, .int (nI t)] (mm L I J) Q := by
  have e : I 5 1 = nI ct.length := (r5 h.1).1
  have e2 : nI ct.length < nI 12 := nI_lt hf (by omega)
  have e2 : nI ct.length < 12 := e2
  rw [E_KN_adds, c_isTurnY ht, if_neg i10]
  simp only [mm_C, mm_R, mm_L, mm_I, mm_sI, CL0, CL1, CL3, CL5, CL19, RR0_0, RR0_1, RR0_2, RR3_1, n1, n3, n5, n19, ↓reduceIte, e]
  rw [if_pos e2]
  refine k_rem h _ (fun I' g1 g2 => ?_)
  simp only [mm_C, mm_R, mm_L, mm_I, mm_sI, CL0, CL1, CL3, CL5, CL19, RR0_0, RR0_1, RR0_2, RR3_1, n1, n3, n5, n19, ↓reduceIte]
  refine c_append w5 (r5 g1.1) hf ht _ (fun I'' f1 f2 => ?_)
  simp only [mm_C, mm_R, mm_L, mm_I, mm_sI, CL0, CL1, CL3, CL5, CL19, RR0_0, RR0_1, RR0_2, RR3_1, n1, n3, n5, n19, ↓reduceIte, f1.1]
  rw [List.length_append]
  exact hQ I'' (ClR_cur g1 (FrR_1 f2 (by omega) (by omega)) (con3 g1.1 f2 f1 (by rw [List.length_append, List.length_singleton]; omega))) (FrR_tr g2 (FrR_1 f2 (by omega) (by omega)))
theorem k_tears (h : ClR I J ns ct ps im tx tr) (Q : Int32 → Mem → Prop) (hQ : ∀ I', ClR I' J ns [] (((ns, ct) :: ps).take 10) im tx tr → FrR 0 248 I I' → Q (nI ct.length) (mm L I' J)) : WI (d + 4) i_KN_tears [.ref 0] (mm L I J) Q := by
  rw [E_KN_tears]
  simp only [mm_C, mm_R, mm_L, mm_I, mm_sI, CL0, CL1, CL3, CL5, CL19, RR0_0, RR0_1, RR0_2, RR3_1, n1, n3, n5, n19, ↓reduceIte]
  refine k_rem h _ (fun I' g1 g2 => ?_)
  simp only [mm_C, mm_R, mm_L, mm_I, mm_sI, CL0, CL1, CL3, CL5, CL19, RR0_0, RR0_1, RR0_2, RR3_1, n1, n3, n5, n19, ↓reduceIte]
  refine c_empty w5 (r5 g1.1) _ (fun I'' f1 f2 => ?_)
  exact hQ I'' (ClR_cur g1 (FrR_1 f2 (by omega) (by omega)) (con3 g1.1 f2 f1 (Nat.zero_le _))) (FrR_tr g2 (FrR_1 f2 (by omega) (by omega)))
theorem k_alikeN (h : ClR I J ns ct ps im tx tr) {x : Int32} (hx : x < 0 ∨ nI ns.length ≤ x) (Q : Int32 → Mem → Prop) : WI (d + 2) i_KN_alike [.ref 0, .int x] (mm L I J) Q ↔ Q (-1) (mm L I J) := by
  rw [E_KN_alike]
  simp only [mm_C, mm_R, mm_L, mm_I, mm_sI, CL0, CL1, CL3, CL5, CL19, RR0_0, RR0_1, RR0_2, RR3_1, n1, n3, n5, n19, ↓reduceIte]
  rw [c_hasN Cw_3 h.1 hx, if_pos rfl]
theorem k_alikeY (h : ClR I J ns ct ps im tx tr) {j : Nat} (hj : j < ns.length) (Q : Int32 → Mem → Prop) : WI (d + 4) i_KN_alike [.ref 0, .int (nI j)] (mm L I J) Q ↔ Q (likS ns j) (mm L I J) := by
  rw [E_KN_alike]
  simp only [mm_C, mm_R, mm_L, mm_I, mm_sI, CL0, CL1, CL3, CL5, CL19, RR0_0, RR0_1, RR0_2, RR3_1, n1, n3, n5, n19, ↓reduceIte]
  rw [c_hasY Cw_3 h.1 hj, if_neg i10]
  simp only [mm_C, mm_R, mm_L, mm_I, mm_sI, CL0, CL1, CL3, CL5, CL19, RR0_0, RR0_1, RR0_2, RR3_1, n1, n3, n5, n19, ↓reduceIte]
  rw [c_like Cw_3 h.1 hj]
theorem k_rootN (h : ClR I J ns ct ps im tx tr) {x : Int32} (hx : x < 0 ∨ nI ns.length ≤ x) (Q : Int32 → Mem → Prop) : WI (d + 2) i_KN_root [.ref 0, .int x] (mm L I J) Q ↔ Q (-1) (mm L I J) := by
  rw [E_KN_root]
  simp only [mm_C, mm_R, mm_L, mm_I, mm_sI, CL0, CL1, CL3, CL5, CL19, RR0_0, RR0_1, RR0_2, RR3_1, n1, n3, n5, n19, ↓reduceIte]
  rw [c_hasN Cw_3 h.1 hx, if_pos rfl]
theorem k_rootY (h : ClR I J ns ct ps im tx tr) {j : Nat} (hj : j < ns.length) (Q : Int32 → Mem → Prop) : WI (d + 3) i_KN_root [.ref 0, .int (nI j)] (mm L I J) Q ↔ Q (nI (roo (nmO ns j))) (mm L I J) := by
  have h6 := h.1.2.1
  have w := w3 (show j < 6 by omega)
  rw [E_KN_root]
  simp only [mm_C, mm_R, mm_L, mm_I, mm_sI, CL0, CL1, CL3, CL5, CL19, RR0_0, RR0_1, RR0_2, RR3_1, n1, n3, n5, n19, ↓reduceIte]
  rw [c_hasY Cw_3 h.1 hj, if_neg i10]
  simp only [mm_C, mm_R, mm_L, mm_I, mm_sI, CL0, CL1, CL3, CL5, CL19, RR0_0, RR0_1, RR0_2, RR3_1, n1, n3, n5, n19, ↓reduceIte]
  rw [c_name3 (by omega), mm_C, if_pos w.1, c_root w (r3 h.1 hj) (l3 h.1 hj)]
theorem k_wayN (h : ClR I J ns ct ps im tx tr) {x y : Int32} (hx : x < 0 ∨ nI ns.length ≤ x) (Q : Int32 → Mem → Prop) : WI (d + 2) i_KN_way [.ref 0, .int x, .int y] (mm L I J) Q ↔ Q (-1) (mm L I J) := by
  rw [E_KN_way]
  simp only [mm_C, mm_R, mm_L, mm_I, mm_sI, CL0, CL1, CL3, CL5, CL19, RR0_0, RR0_1, RR0_2, RR3_1, n1, n3, n5, n19, ↓reduceIte]
  rw [c_hasN Cw_3 h.1 hx, if_pos rfl]
theorem k_wayN2 (h : ClR I J ns ct ps im tx tr) {j : Nat} (hj : j < ns.length) {y : Int32} (hy : y < 0 ∨ nI ns.length ≤ y) (Q : Int32 → Mem → Prop) : WI (d + 2) i_KN_way [.ref 0, .int (nI j), .int y] (mm L I J) Q ↔ Q (-1) (mm L I J) := by
  rw [E_KN_way]
  simp only [mm_C, mm_R, mm_L, mm_I, mm_sI, CL0, CL1, CL3, CL5, CL19, RR0_0, RR0_1, RR0_2, RR3_1, n1, n3, n5, n19, ↓reduceIte]
  rw [c_hasY Cw_3 h.1 hj, if_neg i10]
  simp only [mm_C, mm_R, mm_L, mm_I, mm_sI, CL0, CL1, CL3, CL5, CL19, RR0_0, RR0_1, RR0_2, RR3_1, n1, n3, n5, n19, ↓reduceIte]
  rw [c_hasN Cw_3 h.1 hy, if_pos rfl]
theorem k_wayY (h : ClR I J ns ct ps im tx tr) {j e : Nat} (hj : j < ns.length) (he : e < ns.length) (Q : Int32 → Mem → Prop) : WI (d + 3) i_KN_way [.ref 0, .int (nI j), .int (nI e)] (mm L I J) Q ↔ Q (nI (nmO ns j).length + nI (nmO ns e).length - 2 * nI (lcp (nmO ns j) (nmO ns e))) (mm L I J) := by
  have h6 := h.1.2.1
  have w := w3 (show j < 6 by omega)
  have v := w3 (show e < 6 by omega)
  rw [E_KN_way]
  simp only [mm_C, mm_R, mm_L, mm_I, mm_sI, CL0, CL1, CL3, CL5, CL19, RR0_0, RR0_1, RR0_2, RR3_1, n1, n3, n5, n19, ↓reduceIte]
  rw [c_hasY Cw_3 h.1 hj, if_neg i10]
  simp only [mm_C, mm_R, mm_L, mm_I, mm_sI, CL0, CL1, CL3, CL5, CL19, RR0_0, RR0_1, RR0_2, RR3_1, n1, n3, n5, n19, ↓reduceIte]
  rw [c_hasY Cw_3 h.1 he, if_neg i10]
  simp only [mm_C, mm_R, mm_L, mm_I, mm_sI, CL0, CL1, CL3, CL5, CL19, RR0_0, RR0_1, RR0_2, RR3_1, n1, n3, n5, n19, ↓reduceIte]
  rw [c_name3 (by omega)]
  simp only [mm_C, mm_R, mm_L, mm_I, mm_sI, CL0, CL1, CL3, CL5, CL19, RR0_0, RR0_1, RR0_2, RR3_1, n1, n3, n5, n19, ↓reduceIte]
  rw [c_name3 (by omega), mm_C, mm_I, if_pos w.1, if_pos v.1, if_pos w.1, c_common w v (r3 h.1 hj) (r3 h.1 he) (l3 h.1 hj) (l3 h.1 he), (r3 h.1 hj).1, (r3 h.1 he).1]
end KN2
end
section
def bcE (p1 : Int32) : Int32 := ((((((((p1 - ((Int32.toUInt32 p1 >>> (Int32.toUInt32 (1 : Int32) &&& Int32.toUInt32 31)).toInt32 &&& (1431655765 : Int32))) &&& (858993459 : Int32)) + ((Int32.toUInt32 (p1 - ((Int32.toUInt32 p1 >>> (Int32.toUInt32 (1 : Int32) &&& Int32.toUInt32 31)).toInt32 &&& (1431655765 : Int32))) >>> (Int32.toUInt32 (2 : Int32) &&& Int32.toUInt32 31)).toInt32 &&& (858993459 : Int32))) + (Int32.toUInt32 (((p1 - ((Int32.toUInt32 p1 >>> (Int32.toUInt32 (1 : Int32) &&& Int32.toUInt32 31)).toInt32 &&& (1431655765 : Int32))) &&& (858993459 : Int32)) + ((Int32.toUInt32 (p1 - ((Int32.toUInt32 p1 >>> (Int32.toUInt32 (1 : Int32) &&& Int32.toUInt32 31)).toInt32 &&& (1431655765 : Int32))) >>> (Int32.toUInt32 (2 : Int32) &&& Int32.toUInt32 31)).toInt32 &&& (858993459 : Int32))) >>> (Int32.toUInt32 (4 : Int32) &&& Int32.toUInt32 31)).toInt32) &&& (252645135 : Int32)) + (Int32.toUInt32 (((((p1 - ((Int32.toUInt32 p1 >>> (Int32.toUInt32 (1 : Int32) &&& Int32.toUInt32 31)).toInt32 &&& (1431655765 : Int32))) &&& (858993459 : Int32)) + ((Int32.toUInt32 (p1 - ((Int32.toUInt32 p1 >>> (Int32.toUInt32 (1 : Int32) &&& Int32.toUInt32 31)).toInt32 &&& (1431655765 : Int32))) >>> (Int32.toUInt32 (2 : Int32) &&& Int32.toUInt32 31)).toInt32 &&& (858993459 : Int32))) + (Int32.toUInt32 (((p1 - ((Int32.toUInt32 p1 >>> (Int32.toUInt32 (1 : Int32) &&& Int32.toUInt32 31)).toInt32 &&& (1431655765 : Int32))) &&& (858993459 : Int32)) + ((Int32.toUInt32 (p1 - ((Int32.toUInt32 p1 >>> (Int32.toUInt32 (1 : Int32) &&& Int32.toUInt32 31)).toInt32 &&& (1431655765 : Int32))) >>> (Int32.toUInt32 (2 : Int32) &&& Int32.toUInt32 31)).toInt32 &&& (858993459 : Int32))) >>> (Int32.toUInt32 (4 : Int32) &&& Int32.toUInt32 31)).toInt32) &&& (252645135 : Int32)) >>> (Int32.toUInt32 (8 : Int32) &&& Int32.toUInt32 31)).toInt32) + (Int32.toUInt32 ((((((p1 - ((Int32.toUInt32 p1 >>> (Int32.toUInt32 (1 : Int32) &&& Int32.toUInt32 31)).toInt32 &&& (1431655765 : Int32))) &&& (858993459 : Int32)) + ((Int32.toUInt32 (p1 - ((Int32.toUInt32 p1 >>> (Int32.toUInt32 (1 : Int32) &&& Int32.toUInt32 31)).toInt32 &&& (1431655765 : Int32))) >>> (Int32.toUInt32 (2 : Int32) &&& Int32.toUInt32 31)).toInt32 &&& (858993459 : Int32))) + (Int32.toUInt32 (((p1 - ((Int32.toUInt32 p1 >>> (Int32.toUInt32 (1 : Int32) &&& Int32.toUInt32 31)).toInt32 &&& (1431655765 : Int32))) &&& (858993459 : Int32)) + ((Int32.toUInt32 (p1 - ((Int32.toUInt32 p1 >>> (Int32.toUInt32 (1 : Int32) &&& Int32.toUInt32 31)).toInt32 &&& (1431655765 : Int32))) >>> (Int32.toUInt32 (2 : Int32) &&& Int32.toUInt32 31)).toInt32 &&& (858993459 : Int32))) >>> (Int32.toUInt32 (4 : Int32) &&& Int32.toUInt32 31)).toInt32) &&& (252645135 : Int32)) + (Int32.toUInt32 (((((p1 - ((Int32.toUInt32 p1 >>> (Int32.toUInt32 (1 : Int32) &&& Int32.toUInt32 31)).toInt32 &&& (1431655765 : Int32))) &&& (858993459 : Int32)) + ((Int32.toUInt32 (p1 - ((Int32.toUInt32 p1 >>> (Int32.toUInt32 (1 : Int32) &&& Int32.toUInt32 31)).toInt32 &&& (1431655765 : Int32))) >>> (Int32.toUInt32 (2 : Int32) &&& Int32.toUInt32 31)).toInt32 &&& (858993459 : Int32))) + (Int32.toUInt32 (((p1 - ((Int32.toUInt32 p1 >>> (Int32.toUInt32 (1 : Int32) &&& Int32.toUInt32 31)).toInt32 &&& (1431655765 : Int32))) &&& (858993459 : Int32)) + ((Int32.toUInt32 (p1 - ((Int32.toUInt32 p1 >>> (Int32.toUInt32 (1 : Int32) &&& Int32.toUInt32 31)).toInt32 &&& (1431655765 : Int32))) >>> (Int32.toUInt32 (2 : Int32) &&& Int32.toUInt32 31)).toInt32 &&& (858993459 : Int32))) >>> (Int32.toUInt32 (4 : Int32) &&& Int32.toUInt32 31)).toInt32) &&& (252645135 : Int32)) >>> (Int32.toUInt32 (8 : Int32) &&& Int32.toUInt32 31)).toInt32) >>> (Int32.toUInt32 (16 : Int32) &&& Int32.toUInt32 31)).toInt32) &&& (63 : Int32))
theorem c_bc (d : Nat) (x : Int32) (M : Mem) (Q : Int32 → Mem → Prop) : WI d i_JInt_bitCount [.int x] M Q ↔ Q (bcE x) M := E_JInt_bitCount d x M Q
def pop (m : Nat) : Nat := m % 2 + m / 2 % 2 + m / 4 % 2 + m / 8 % 2 + m / 16 % 2 + m / 32 % 2
theorem bcE_F : ∀ m : Fin 64, bcE (nI m.1) = nI (pop m.1) := by decide +kernel
theorem bcE_p {m : Nat} (h : m < 64) : bcE (nI m) = nI (pop m) := bcE_F ⟨m, h⟩
theorem pop_F : ∀ m : Fin 64, pop m.1 ≤ 6 ∧ (pop m.1 = 0 → m.1 = 0) := by decide +kernel
theorem or_F : ∀ s : Fin 64, ∀ k : Fin 6, nI s.1 ||| ((1 : Int32) <<< (nI k.1 &&& 31)) = nI (s.1 ||| 2 ^ k.1) ∧ (s.1 ||| 2 ^ k.1) < 64 ∧ s.1 ≤ (s.1 ||| 2 ^ k.1) ∧ 0 < (s.1 ||| 2 ^ k.1) := by decide +kernel
/-- a set as a number -/
def btN (P : Nat → Bool) : Nat → Nat → Nat → Nat
  | 0, _, s => s
  | n + 1, k, s => btN P n (k + 1) (if P k = true then s ||| 2 ^ k else s)
theorem bts_N (P : Nat → Bool) : ∀ n k s, k + n ≤ 6 → s < 64 → bts P n k (nI s) = nI (btN P n k s) ∧ btN P n k s < 64 ∧ s ≤ btN P n k s ∧ (∀ j, k ≤ j → j < k + n → P j = true → 0 < btN P n k s) := by
  intro n
  induction n with
  | zero => intro k s _ hs; exact ⟨rfl, hs, Nat.le_refl _, fun j h1 h2 => by omega⟩
  | succ n ih =>
    intro k s hk hs
    obtain ⟨o1, o2, o3, o4⟩ := or_F ⟨s, hs⟩ ⟨k, by omega⟩
    have o1 : nI s ||| ((1 : Int32) <<< (nI k &&& 31)) = nI (s ||| 2 ^ k) := o1
    have o2 : s ||| 2 ^ k < 64 := o2
    have o3 : s ≤ s ||| 2 ^ k := o3
    have o4 : 0 < s ||| 2 ^ k := o4
    unfold bts btN
    by_cases h : P k = true
    · rw [if_pos h, if_pos h, o1]
      obtain ⟨i1, i2, i3, i4⟩ := ih (k + 1) (s ||| 2 ^ k) (by omega) o2
      exact ⟨i1, i2, by omega, fun j _ _ _ => by omega⟩
    · rw [if_neg h, if_neg h]
      obtain ⟨i1, i2, i3, i4⟩ := ih (k + 1) s (by omega) hs
      refine ⟨i1, i2, i3, fun j h1 h2 hp => ?_⟩
      by_cases e : j = k
      · rw [e] at hp; exact absurd hp h
      · exact i4 j (by omega) (by omega) hp
section KN3
variable {d L : Nat} {I : Nat → Nat → Int32} {J : Nat → Nat → Int64} {ns : List (List Nat)} {ct : List Nat} {ps : List Cp} {im : Nat → Option Cp} {tx : List Nat} {tr : Int64}
def likN (ns : List (List Nat)) (h : Nat) : Nat := btN (likP ns h) ns.length 0 0
theorem lik_N (h6 : ns.length ≤ 6) {j : Nat} (hj : j < ns.length) : likS ns j = nI (likN ns j) ∧ likN ns j < 64 ∧ 0 < likN ns j := by
  have := bts_N (likP ns j) ns.length 0 0 (by omega) (by omega)
  rw [nI_0] at this
  exact ⟨this.1, this.2.1, this.2.2.2 j (by omega) (by omega) (decide_eq_true rfl)⟩
def rngP (ns : List (List Nat)) (j : Nat) : Nat → Bool := fun e => rngB (nmO ns j) (nmO ns e)
theorem k_ring_loop (h : ClR I J ns ct ps im tx tr) {j : Nat} (hj : j < ns.length) (Q : Option Value → Mem → Prop) : ∀ n k s, k + n = ns.length →
    (Wn (d + 3) i_KN_ring 17 [(0, .ref 0), (1, .int (nI j)), (2, .int s), (3, .int (nI k))] [] (mm L I J) Q ↔ Q (some (.int (bts (rngP ns j) n k s))) (mm L I J)) := by
  have h6 := h.1.2.1
  have t1 := h.1.1
  have w := w3 (show j < 6 by omega)
  intro n
  induction n with
  | zero =>
    intro k s hk
    rw [H_KN_ring_17]
    simp only [mm_C, mm_R, mm_L, mm_I, mm_sI, CL0, CL1, CL3, CL5, CL19, RR0_0, RR0_1, RR0_2, RR3_1, n1, n3, n5, n19, ↓reduceIte, t1]
    rw [if_neg (nI_nlt (by omega) (by omega))]
    rfl
  | succ n ih =>
    intro k s hk
    have v := w3 (show k < 6 by omega)
    rw [H_KN_ring_17]
    simp only [mm_C, mm_R, mm_L, mm_I, mm_sI, CL0, CL1, CL3, CL5, CL19, RR0_0, RR0_1, RR0_2, RR3_1, n1, n3, n5, n19, ↓reduceIte, t1]
    rw [if_pos (nI_lt (by omega) (by omega)), c_name3 (by omega)]
    simp only [mm_C, mm_R, mm_L, mm_I, mm_sI, CL0, CL1, CL3, CL5, CL19, RR0_0, RR0_1, RR0_2, RR3_1, n1, n3, n5, n19, ↓reduceIte]
    rw [c_name3 (by omega), mm_C, if_pos w.1, c_ring w v (r3 h.1 hj) (r3 h.1 (by omega)) (l3 h.1 hj) (l3 h.1 (by omega)), nI_1, ih _ _ (by omega), ih _ _ (by omega)]
    by_cases e : rngB (nmO ns j) (nmO ns k) = true
    · rw [if_neg (fun q => by rw [bI_0.mp q] at e; cases e), bts_t (P := rngP ns j) e]
    · have e : rngB (nmO ns j) (nmO ns k) = false := by simpa using e
      rw [if_pos (bI_0.mpr e), bts_f (P := rngP ns j) e]
theorem k_ringN (h : ClR I J ns ct ps im tx tr) {x : Int32} (hx : x < 0 ∨ nI ns.length ≤ x) (Q : Int32 → Mem → Prop) : WI (d + 2) i_KN_ring [.ref 0, .int x] (mm L I J) Q ↔ Q (-1) (mm L I J) := by
  rw [E_KN_ring]
  simp only [mm_C, mm_R, mm_L, mm_I, mm_sI, CL0, CL1, CL3, CL5, CL19, RR0_0, RR0_1, RR0_2, RR3_1, n1, n3, n5, n19, ↓reduceIte]
  rw [c_hasN Cw_3 h.1 hx, if_pos rfl]
theorem k_ringY (h : ClR I J ns ct ps im tx tr) {j : Nat} (hj : j < ns.length) (Q : Int32 → Mem → Prop) : WI (d + 3) i_KN_ring [.ref 0, .int (nI j)] (mm L I J) Q ↔ Q (bts (rngP ns j) ns.length 0 0) (mm L I J) := by
  rw [E_KN_ring]
  simp only [mm_C, mm_R, mm_L, mm_I, mm_sI, CL0, CL1, CL3, CL5, CL19, RR0_0, RR0_1, RR0_2, RR3_1, n1, n3, n5, n19, ↓reduceIte]
  rw [c_hasY Cw_3 h.1 hj, if_neg i10]
  exact k_ring_loop h hj (QI Q) ns.length 0 0 (by omega)
def ordP (ns : List (List Nat)) (j : Nat) : Nat → Bool := fun e => decide (cmpR (nmO ns e) (nmO ns j) < 0 ∨ (cmpR (nmO ns e) (nmO ns j) = 0 ∧ e < j))
theorem k_order_loop (h : ClR I J ns ct ps im tx tr) {j : Nat} (hj : j < ns.length) (Q : Option Value → Mem → Prop) : ∀ n k s, k + n = ns.length →
    (Wn (d + 3) i_KN_order 17 [(0, .ref 0), (1, .int (nI j)), (2, .int (nI s)), (3, .int (nI k))] [] (mm L I J) Q ↔ Q (some (.int (nI (s + cnt (ordP ns j) n k)))) (mm L I J)) := by
  have h6 := h.1.2.1
  have t1 := h.1.1
  have w := w3 (show j < 6 by omega)
  intro n
  induction n with
  | zero =>
    intro k s hk
    rw [H_KN_order_17]
    simp only [mm_C, mm_R, mm_L, mm_I, mm_sI, CL0, CL1, CL3, CL5, CL19, RR0_0, RR0_1, RR0_2, RR3_1, n1, n3, n5, n19, ↓reduceIte, t1]
    rw [if_neg (nI_nlt (by omega) (by omega))]
    rfl
  | succ n ih =>
    intro k s hk
    have v := w3 (show k < 6 by omega)
    rw [H_KN_order_17]
    simp only [mm_C, mm_R, mm_L, mm_I, mm_sI, CL0, CL1, CL3, CL5, CL19, RR0_0, RR0_1, RR0_2, RR3_1, n1, n3, n5, n19, ↓reduceIte, t1]
    rw [if_pos (nI_lt (by omega) (by omega)), c_name3 (by omega)]
    simp only [mm_C, mm_R, mm_L, mm_I, mm_sI, CL0, CL1, CL3, CL5, CL19, RR0_0, RR0_1, RR0_2, RR3_1, n1, n3, n5, n19, ↓reduceIte]
    rw [c_name3 (by omega), mm_C, if_pos v.1, c_cmpR v w (r3 h.1 (by omega)) (r3 h.1 hj) (l3 h.1 (by omega)) (l3 h.1 hj), nI_1, nI_1, ih _ _ (by omega), ih _ _ (by omega)]
    by_cases e : cmpR (nmO ns k) (nmO ns j) < 0
    · rw [if_pos e, cnt_t (P := ordP ns j) (decide_eq_true (Or.inl e)), Nat.add_assoc]
    · rw [if_neg e]
      by_cases e2 : cmpR (nmO ns k) (nmO ns j) = 0
      · rw [if_pos e2]
        by_cases e3 : k < j
        · rw [if_pos (nI_lt e3 (by omega)), cnt_t (P := ordP ns j) (decide_eq_true (Or.inr ⟨e2, e3⟩)), Nat.add_assoc]
        · rw [if_neg (nI_nlt (by omega) (by omega)), cnt_f (P := ordP ns j) (decide_eq_false (fun q => q.elim e (fun q => e3 q.2)))]
      · rw [if_neg e2, cnt_f (P := ordP ns j) (decide_eq_false (fun q => q.elim e (fun q => e2 q.1)))]
theorem k_orderN (h : ClR I J ns ct ps im tx tr) {x : Int32} (hx : x < 0 ∨ nI ns.length ≤ x) (Q : Int32 → Mem → Prop) : WI (d + 2) i_KN_order [.ref 0, .int x] (mm L I J) Q ↔ Q (-1) (mm L I J) := by
  rw [E_KN_order]
  simp only [mm_C, mm_R, mm_L, mm_I, mm_sI, CL0, CL1, CL3, CL5, CL19, RR0_0, RR0_1, RR0_2, RR3_1, n1, n3, n5, n19, ↓reduceIte]
  rw [c_hasN Cw_3 h.1 hx, if_pos rfl]
theorem k_orderY (h : ClR I J ns ct ps im tx tr) {j : Nat} (hj : j < ns.length) (Q : Int32 → Mem → Prop) : WI (d + 3) i_KN_order [.ref 0, .int (nI j)] (mm L I J) Q ↔ Q (nI (cnt (ordP ns j) ns.length 0)) (mm L I J) := by
  rw [E_KN_order]
  simp only [mm_C, mm_R, mm_L, mm_I, mm_sI, CL0, CL1, CL3, CL5, CL19, RR0_0, RR0_1, RR0_2, RR3_1, n1, n3, n5, n19, ↓reduceIte]
  rw [c_hasY Cw_3 h.1 hj, if_neg i10]
  have := k_order_loop (d := d) (L := L) h hj (QI Q) ns.length 0 0 (by omega)
  rw [nI_0, Nat.zero_add] at this
  exact this
def mixP (ns : List (List Nat)) (j D : Nat) : Nat → Bool := fun e => decide ((nmO ns j).length = (nmO ns e).length ∧ difs (nmO ns j) (nmO ns e) ≤ D)
theorem difs_le (l m : List Nat) : difs l m ≤ l.length := cnt_le _ _ _
theorem k_mixed_loop (h : ClR I J ns ct ps im tx tr) {j D : Nat} (hj : j < ns.length) (hD : D ≤ 12) (Q : Option Value → Mem → Prop) : ∀ n k s, k + n = ns.length →
    (Wn (d + 2) i_KN_mixed 38 [(0, .ref 0), (1, .int (nI j)), (2, .int (nI D)), (3, .ref (7 + 2 * j)), (4, .int s), (5, .int (nI k))] [] (mm L I J) Q ↔ Q (some (.int (bts (mixP ns j D) n k s))) (mm L I J)) := by
  have h6 := h.1.2.1
  have t1 := h.1.1
  have w := w3 (show j < 6 by omega)
  have lj := l3 h.1 hj
  intro n
  induction n with
  | zero =>
    intro k s hk
    rw [H_KN_mixed_38]
    simp only [mm_C, mm_R, mm_L, mm_I, mm_sI, CL0, CL1, CL3, CL5, CL19, RR0_0, RR0_1, RR0_2, RR3_1, n1, n3, n5, n19, ↓reduceIte, t1]
    rw [if_neg (nI_nlt (by omega) (by omega))]
    rfl
  | succ n ih =>
    intro k s hk
    have v := w3 (show k < 6 by omega)
    have lk := l3 h.1 (show k < ns.length by omega)
    have dl := difs_le (nmO ns j) (nmO ns k)
    rw [H_KN_mixed_38]
    simp only [mm_C, mm_R, mm_L, mm_I, mm_sI, CL0, CL1, CL3, CL5, CL19, RR0_0, RR0_1, RR0_2, RR3_1, n1, n3, n5, n19, ↓reduceIte, t1]
    rw [if_pos (nI_lt (by omega) (by omega)), c_name3 (by omega), mm_C, if_pos w.1, if_pos v.1, mm_I, (r3 h.1 hj).1, (r3 h.1 (show k < ns.length by omega)).1, if_pos w.1, nI_1, ih _ _ (by omega)]
    by_cases e : (nmO ns j).length = (nmO ns k).length
    · rw [if_pos (by rw [e]), c_diff w v (r3 h.1 hj) (r3 h.1 (by omega)) lj lk e, ih _ _ (by omega), ih _ _ (by omega)]
      by_cases e2 : difs (nmO ns j) (nmO ns k) ≤ D
      · rw [if_neg (nI_nlt (by omega) (by omega)), bts_t (P := mixP ns j D) (decide_eq_true ⟨e, e2⟩)]
      · rw [if_pos (nI_lt (by omega) (by omega)), bts_f (P := mixP ns j D) (decide_eq_false (fun q => e2 q.2))]
    · rw [if_neg (fun q => e ((nI_eq (by omega) (by omega)).mp q)), bts_f (P := mixP ns j D) (decide_eq_false (fun q => e q.1))]
theorem k_mixedN (h : ClR I J ns ct ps im tx tr) {x y : Int32} (hx : x < 0 ∨ nI ns.length ≤ x) (Q : Int32 → Mem → Prop) : WI (d + 2) i_KN_mixed [.ref 0, .int x, .int y] (mm L I J) Q ↔ Q (-1) (mm L I J) := by
  rw [E_KN_mixed]
  simp only [mm_C, mm_R, mm_L, mm_I, mm_sI, CL0, CL1, CL3, CL5, CL19, RR0_0, RR0_1, RR0_2, RR3_1, n1, n3, n5, n19, ↓reduceIte]
  rw [c_hasN Cw_3 h.1 hx, if_pos rfl]
theorem nw_12 {a b y : Int32} (hy : y < a ∨ b < y) : decide (a ≤ y ∧ y ≤ b) = false := decide_eq_false (fun q => hy.elim (fun h => absurd h (Int32.not_lt.mpr q.1)) (fun h => absurd h (Int32.not_lt.mpr q.2)))
theorem k_mixedN2 (h : ClR I J ns ct ps im tx tr) {j : Nat} (hj : j < ns.length) {y : Int32} (hy : y < 0 ∨ 12 < y) (Q : Int32 → Mem → Prop) : WI (d + 2) i_KN_mixed [.ref 0, .int (nI j), .int y] (mm L I J) Q ↔ Q (-1) (mm L I J) := by
  rw [E_KN_mixed]
  simp only [mm_C, mm_R, mm_L, mm_I, mm_sI, CL0, CL1, CL3, CL5, CL19, RR0_0, RR0_1, RR0_2, RR3_1, n1, n3, n5, n19, ↓reduceIte]
  rw [c_hasY Cw_3 h.1 hj, if_neg i10, c_within, nw_12 hy, if_pos (by rfl)]
theorem k_mixedY (h : ClR I J ns ct ps im tx tr) {j D : Nat} (hj : j < ns.length) (hD : D ≤ 12) (Q : Int32 → Mem → Prop) : WI (d + 2) i_KN_mixed [.ref 0, .int (nI j), .int (nI D)] (mm L I J) Q ↔ Q (bts (mixP ns j D) ns.length 0 0) (mm L I J) := by
  have h6 := h.1.2.1
  have h1 : nI D ≤ nI 12 := nI_le (by omega) (by omega)
  have h1 : nI D ≤ 12 := h1
  rw [E_KN_mixed]
  simp only [mm_C, mm_R, mm_L, mm_I, mm_sI, CL0, CL1, CL3, CL5, CL19, RR0_0, RR0_1, RR0_2, RR3_1, n1, n3, n5, n19, ↓reduceIte]
  rw [c_hasY Cw_3 h.1 hj, if_neg i10, c_within, decide_eq_true ⟨nI_pos' (by omega), h1⟩, if_neg (by decide)]
  simp only [mm_C, mm_R, mm_L, mm_I, mm_sI, CL0, CL1, CL3, CL5, CL19, RR0_0, RR0_1, RR0_2, RR3_1, n1, n3, n5, n19, ↓reduceIte]
  rw [c_name3 (by omega)]
  exact k_mixed_loop h hj hD (QI Q) ns.length 0 0 (by omega)
end KN3
end
section
theorem CL181 : CL 181 = 15 := by decide
theorem CL182 : CL 182 = 12 := by decide
theorem LN181 (L : Nat) : LN L 181 = 2 := rfl
theorem LN182 (L : Nat) : LN L 182 = 2 := rfl
theorem RR0_3 : RR 0 3 = 181 := by decide
theorem RR0_4 : RR 0 4 = 182 := by decide
theorem RR0_7 : RR 0 7 = 196 := by decide
theorem RR0_8 : RR 0 8 = 198 := by decide
theorem n196 : ¬ (196 : Nat) = 999999 := by decide
theorem n198 : ¬ (198 : Nat) = 999999 := by decide
theorem RR181 : ∀ i, i < 2 → RR 181 i = 216 + 16 * i := by decide
theorem i_rr {i : Nat} (hi : i < 2) : RR 181 (nI i).toNatClampNeg = 216 + 16 * i := by rw [ix_nI (by omega)]; exact RR181 i hi
theorem i_ok {i : Nat} (hi : i < 2) : (rdA 15 ∧ inb (nI i) 2) ∧ RR 181 (nI i).toNatClampNeg ≠ 999999 := by
  refine ⟨⟨by decide, inb_nI hi (by omega)⟩, ?_⟩
  rw [i_rr hi]
  omega
theorem Cw_i : ∀ i, i < 2 → Cw (216 + 16 * i) := by unfold Cw Rw; decide
theorem vpb1 : vp_nar .boolean (1 : Int32) = 1 := by decide
theorem vpb0 : vp_nar .boolean (0 : Int32) = 0 := by decide
section KN4
variable {d L : Nat} {I : Nat → Nat → Int32} {J : Nat → Nat → Int64} {ns : List (List Nat)} {ct : List Nat} {ps : List Cp} {im : Nat → Option Cp} {tx : List Nat} {tr : Int64}
theorem within_Y {a b x : Int32} (h1 : a ≤ x) (h2 : x ≤ b) : decide (a ≤ x ∧ x ≤ b) = true := decide_eq_true ⟨h1, h2⟩
theorem w01 {m : Nat} (hm : m < 2) : decide ((0 : Int32) ≤ nI m ∧ nI m ≤ 1) = true := by
  have h1 : nI m ≤ nI 1 := nI_le (by omega) (by omega)
  exact decide_eq_true ⟨nI_pos' (by omega), h1⟩
theorem k_keepN {x : Int32} (hx : x < 0 ∨ 1 < x) (M : Mem) (Q : Int32 → Mem → Prop) : WI (d + 1) i_KN_keep [.ref 0, .int x] M Q ↔ Q (-1) M := by
  rw [E_KN_keep, c_within, nw_12 hx, if_pos (by rfl)]
theorem k_backN {x : Int32} (hx : x < 0 ∨ 1 < x) (M : Mem) (Q : Int32 → Mem → Prop) : WI (d + 1) i_KN_back [.ref 0, .int x] M Q ↔ Q (-1) M := by
  rw [E_KN_back, c_within, nw_12 hx, if_pos (by rfl)]
theorem k_keepY (h : ClR I J ns ct ps im tx tr) {m : Nat} (hm : m < 2) (Q : Int32 → Mem → Prop) (hQ : ∀ I', ClR I' J ns ct ps (fun k => if k = m then some (ns, ct) else im k) tx tr → FrR 0 248 I I' → Q (nI (sumL ns ns.length 0)) (mm L I' J)) : WI (d + 3) i_KN_keep [.ref 0, .int (nI m)] (mm L I J) Q := by
  obtain ⟨a1, ⟨w, a2⟩, a3, a4, a5, a6⟩ := id h
  rw [E_KN_keep, c_within, w01 hm, if_neg (by decide)]
  simp only [mm_C, mm_R, mm_L, mm_I, mm_sI, CL0, CL1, CL3, CL5, CL19, RR0_0, RR0_1, RR0_2, RR3_1, n1, n3, n5, n19, ↓reduceIte, RR0_3, RR0_4, n181, n182, CL181, CL182, LN181, LN182]
  rw [if_pos (i_ok hm), i_rr hm, if_pos (Cw_i m hm).2.1]
  refine c_cbec (Cw_i m hm) Cw_3 (by omega) a1 _ (fun I' g1 g2 => ?_)
  have g3 : FrR 216 248 I I' := FrR_w g2 (by omega) (by omega)
  simp only [mm_C, mm_R, mm_L, mm_I, mm_sI, CL0, CL1, CL3, CL5, CL19, RR0_0, RR0_1, RR0_2, RR3_1, n1, n3, n5, n19, ↓reduceIte, RR0_3, RR0_4, n181, n182, CL181, CL182, LN181, LN182, vpb1]
  rw [if_pos ⟨trivial, inb_nI (by omega) (by omega)⟩, ix_nI (by omega)]
  have hF : FrR 182 183 I' (up2 I' 182 m 1) := FrR_u (by omega) (by omega)
  have hc : Cl (up2 I' 182 m 1) 3 ns ct := Cl_fr hF (by omega) (Cl_fr g3 (by omega) a1)
  rw [c_turns Cw_3 hc]
  refine hQ _ ⟨hc, ⟨w, PcR_fr hF (by omega) (PcR_fr g3 (by omega) a2)⟩, TxR_fr hF (by omega) (TxR_fr g3 (by omega) a3), SxR_fr hF (by omega) (SxR_fr g3 (by omega) a4), ?_, a6⟩ (FrR_tr (FrR_w g3 (by omega) (by omega)) (FrR_w hF (by omega) (by omega)))
  intro m' hm'
  show up2 I' 182 m 1 182 m' = bI (if m' = m then some (ns, ct) else im m').isSome ∧ ∀ p, (if m' = m then some (ns, ct) else im m') = some p → Cl (up2 I' 182 m 1) (216 + 16 * m') p.1 p.2
  by_cases e : m' = m
  · rw [if_pos e, e, up2_same]
    refine ⟨rfl, fun p hp => ?_⟩
    have hp := Option.some.inj hp
    rw [← hp]
    exact Cl_fr hF (by omega) g1
  · rw [if_neg e, up2_other _ _ _ e, g2 182 (by omega)]
    refine ⟨(a5 m' hm').1, fun p hp => ?_⟩
    exact Cl_fr hF (by omega) (Cl_fr g2 (by omega) ((a5 m' hm').2 p hp))
theorem k_backE (h : ClR I J ns ct ps im tx tr) {m : Nat} (hm : m < 2) (hn : im m = none) (Q : Int32 → Mem → Prop) : WI (d + 3) i_KN_back [.ref 0, .int (nI m)] (mm L I J) Q ↔ Q (-2) (mm L I J) := by
  have a5 := (h.2.2.2.2.1 m hm).1
  rw [hn] at a5
  have a5 : I 182 m = 0 := a5
  rw [E_KN_back, c_within, w01 hm, if_neg (by decide)]
  simp only [mm_C, mm_R, mm_L, mm_I, mm_sI, CL0, CL1, CL3, CL5, CL19, RR0_0, RR0_1, RR0_2, RR3_1, n1, n3, n5, n19, ↓reduceIte, RR0_3, RR0_4, n181, n182, CL181, CL182, LN181, LN182]
  rw [if_pos ⟨by decide, inb_nI hm (by omega)⟩, if_pos (by rw [ix_nI (by omega)]; exact a5)]
theorem k_backY (h : ClR I J ns ct ps im tx tr) {m : Nat} (hm : m < 2) {p : Cp} (hn : im m = some p) (Q : Int32 → Mem → Prop) (hQ : ∀ I', ClR I' J p.1 p.2 [] im tx tr → FrR 0 248 I I' → Q (nI (sumL p.1 p.1.length 0)) (mm L I' J)) : WI (d + 3) i_KN_back [.ref 0, .int (nI m)] (mm L I J) Q := by
  obtain ⟨a1, ⟨w, a2⟩, a3, a4, a5, a6⟩ := id h
  obtain ⟨b5, b6⟩ := a5 m hm
  rw [hn] at b5
  have b5 : I 182 m = 1 := b5
  have b6 := b6 p hn
  have b7 : ¬ I 182 (nI m).toNatClampNeg = 0 := by rw [ix_nI (by omega), b5]; decide
  rw [E_KN_back, c_within, w01 hm, if_neg (by decide)]
  simp only [mm_C, mm_R, mm_L, mm_I, mm_sI, CL0, CL1, CL3, CL5, CL19, RR0_0, RR0_1, RR0_2, RR3_1, n1, n3, n5, n19, ↓reduceIte, RR0_3, RR0_4, n181, n182, CL181, CL182, LN181, LN182]
  rw [if_pos ⟨by decide, inb_nI hm (by omega)⟩, if_neg b7, if_pos (i_ok hm), i_rr hm]
  refine c_cbec Cw_3 (Cw_i m hm) (by omega) b6 _ (fun I' g1 g2 => ?_)
  simp only [mm_C, mm_R, mm_L, mm_I, mm_sI, CL0, CL1, CL3, CL5, CL19, RR0_0, RR0_1, RR0_2, RR3_1, n1, n3, n5, n19, ↓reduceIte]
  refine c_forget (PcR_fr g2 (by omega) a2) _ (fun I'' f1 f2 => ?_)
  simp only [mm_C, mm_R, mm_L, mm_I, mm_sI, CL0, CL1, CL3, CL5, CL19, RR0_0, RR0_1, RR0_2, RR3_1, n1, n3, n5, n19, ↓reduceIte]
  have hc : Cl I'' 3 p.1 p.2 := Cl_fr f2 (by omega) g1
  rw [c_turns Cw_3 hc]
  exact hQ _ ⟨hc, ⟨w, f1⟩, TxR_fr f2 (by omega) (TxR_fr g2 (by omega) a3), SxR_fr f2 (by omega) (SxR_fr g2 (by omega) a4), ImR_fr f2 (by omega) (ImR_fr g2 (by omega) a5), a6⟩ (FrR_tr (FrR_w g2 (by omega) (by omega)) (FrR_w f2 (by omega) (by omega)))
theorem mx1 {c : Nat} (h : 0 < c) (hc : c < 100) : (if (1 : Int32) < nI c then nI c else 1) = nI c := by
  by_cases e : 1 < c
  · have e1 : nI 1 < nI c := nI_lt e (by omega)
    have e1 : (1 : Int32) < nI c := e1
    rw [if_pos e1]
  · have : c = 1 := by omega
    rw [this]
    decide
theorem unl_pos (h6 : ns.length ≤ 6) (h0 : 0 < ns.length) : 0 < cnt (unlP ns) ns.length 0 := by
  obtain ⟨n, hn⟩ : ∃ n, ns.length = n + 1 := ⟨ns.length - 1, by omega⟩
  rw [hn, cnt_t]
  · omega
  · unfold unlP
    have : ((1 : Int32) <<< (nI 0 &&& 31)) - 1 = 0 := by decide
    rw [this, Int32.and_zero]
    rfl
theorem k_shareN (h : ClR I J ns ct ps im tx tr) {x y : Int32} (hx : x < 0 ∨ nI ns.length ≤ x) (Q : Int32 → Mem → Prop) : WI (d + 2) i_KN_share [.ref 0, .int x, .int y] (mm L I J) Q ↔ Q (-1) (mm L I J) := by
  rw [E_KN_share]
  simp only [mm_C, mm_R, mm_L, mm_I, mm_sI, CL0, CL1, CL3, CL5, CL19, RR0_0, RR0_1, RR0_2, RR3_1, n1, n3, n5, n19, ↓reduceIte]
  rw [c_hasN Cw_3 h.1 hx, if_pos rfl]
theorem k_shareN2 (h : ClR I J ns ct ps im tx tr) {j : Nat} (hj : j < ns.length) {y : Int32} (hy : y < 1 ∨ 99 < y) (Q : Int32 → Mem → Prop) : WI (d + 2) i_KN_share [.ref 0, .int (nI j), .int y] (mm L I J) Q ↔ Q (-1) (mm L I J) := by
  rw [E_KN_share]
  simp only [mm_C, mm_R, mm_L, mm_I, mm_sI, CL0, CL1, CL3, CL5, CL19, RR0_0, RR0_1, RR0_2, RR3_1, n1, n3, n5, n19, ↓reduceIte]
  rw [c_hasY Cw_3 h.1 hj, if_neg i10, c_within, nw_12 hy, if_pos (by rfl)]
theorem k_shareY (h : ClR I J ns ct ps im tx tr) {j : Nat} (hj : j < ns.length) {y : Int32} (h1 : 1 ≤ y) (h2 : y ≤ 99) (Q : Int32 → Mem → Prop) : WI (d + 5) i_KN_share [.ref 0, .int (nI j), .int y] (mm L I J) Q ↔ Q (y / nI (cnt (unlP ns) ns.length 0) / nI (pop (likN ns j))) (mm L I J) := by
  have h6 := h.1.2.1
  obtain ⟨k1, k2, k3⟩ := lik_N h6 hj
  have u1 := unl_pos h6 (by omega)
  have u2 := cnt_le (unlP ns) ns.length 0
  obtain ⟨p1, p2⟩ := pop_F ⟨likN ns j, k2⟩
  have p1 : pop (likN ns j) ≤ 6 := p1
  have p3 : 0 < pop (likN ns j) := by
    rcases Nat.eq_zero_or_pos (pop (likN ns j)) with e | e
    · have := p2 e
      have : likN ns j = 0 := this
      omega
    · exact e
  rw [E_KN_share]
  simp only [mm_C, mm_R, mm_L, mm_I, mm_sI, CL0, CL1, CL3, CL5, CL19, RR0_0, RR0_1, RR0_2, RR3_1, n1, n3, n5, n19, ↓reduceIte]
  rw [c_hasY Cw_3 h.1 hj, if_neg i10, c_within, within_Y h1 h2, if_neg (by decide)]
  simp only [mm_C, mm_R, mm_L, mm_I, mm_sI, CL0, CL1, CL3, CL5, CL19, RR0_0, RR0_1, RR0_2, RR3_1, n1, n3, n5, n19, ↓reduceIte]
  rw [c_unl Cw_3 h.1]
  simp only [mm_C, mm_R, mm_L, mm_I, mm_sI, CL0, CL1, CL3, CL5, CL19, RR0_0, RR0_1, RR0_2, RR3_1, n1, n3, n5, n19, ↓reduceIte]
  rw [c_like Cw_3 h.1 hj, c_bc, k1, bcE_p k2, mx1 u1 (by omega), mx1 p3 (by omega), if_neg (nI_ne0 u1 (by omega)), if_neg (nI_ne0 p3 (by omega))]
theorem up2_up2 {α : Type} (f : Nat → Nat → α) (a k : Nat) (v w : α) : up2 (up2 f a k v) a k w = up2 f a k w := by
  funext b j
  unfold up2
  by_cases e : b = a ∧ j = k
  · rw [if_pos e, if_pos e]
  · rw [if_neg e, if_neg e, if_neg e]
theorem c_asH (h : Cl I 3 ns ct) {j : Nat} (hj : j < ns.length) (Q : Int32 → Mem → Prop) : WI (d + 1) i_KN_asHerder [.ref 0, .int (nI j)] (mm L I J) Q ↔ Q (nI (nmO ns j).length) (mm L I (up2 J 0 11 (J 0 11 + 1))) := by
  have h6 := h.2.1
  rw [E_KN_asHerder]
  simp only [mm_C, mm_R, mm_L, mm_I, mm_sI, CL0, CL1, CL3, CL5, CL19, RR0_0, RR0_1, RR0_2, RR3_1, n1, n3, n5, n19, ↓reduceIte, mm_J, mm_sJ]
  rw [c_name3 (by omega), mm_C, if_pos (w3 (by omega)).1, mm_I, (r3 h hj).1]
def las (l : List Nat) : Nat := if l.length = 0 then 0 else l.getD (l.length - 1) 0
theorem c_asC (h : Cl I 3 ns ct) {j : Nat} (hj : j < ns.length) (Q : Int32 → Mem → Prop) : WI (d + 2) i_KN_asChief [.ref 0, .int (nI j)] (mm L I J) Q ↔ Q (nI (nmO ns j).length + nI (las (nmO ns j))) (mm L I (up2 J 0 11 (J 0 11 + 10 + 1))) := by
  have h6 := h.2.1
  have lj := l3 h hj
  rw [E_KN_asChief]
  simp only [mm_C, mm_R, mm_L, mm_I, mm_sI, CL0, CL1, CL3, CL5, CL19, RR0_0, RR0_1, RR0_2, RR3_1, n1, n3, n5, n19, ↓reduceIte, mm_J, mm_sJ]
  rw [c_name3 (by omega), mm_C, if_pos CL0, c_asH h hj, mm_C, if_pos (w3 (by omega)).1, mm_I, (r3 h hj).1, up2_same, up2_up2, if_pos (w3 (by omega)).1]
  unfold las
  by_cases e : (nmO ns j).length = 0
  · rw [e, if_pos (by decide), if_pos rfl, nI_0]
  · rw [if_neg (nI_ne0 (by omega) (by omega)), if_neg e, c_last (w3 (by omega)) (r3 h hj) lj (by omega)]
theorem c_asL (h : Cl I 3 ns ct) {j : Nat} (hj : j < ns.length) (Q : Int32 → Mem → Prop) : WI (d + 4) i_KN_asLiar [.ref 0, .int (nI j)] (mm L I J) Q ↔ Q (nI (nmO ns j).length - nI (pop (likN ns j))) (mm L I (up2 J 0 11 (J 0 11 + 100 + 1))) := by
  have h6 := h.2.1
  obtain ⟨k1, k2, k3⟩ := lik_N h6 hj
  rw [E_KN_asLiar]
  simp only [mm_C, mm_R, mm_L, mm_I, mm_sI, CL0, CL1, CL3, CL5, CL19, RR0_0, RR0_1, RR0_2, RR3_1, n1, n3, n5, n19, ↓reduceIte, mm_J, mm_sJ]
  rw [c_asH h hj]
  simp only [mm_C, mm_R, mm_L, mm_I, mm_sI, CL0, CL1, CL3, CL5, CL19, RR0_0, RR0_1, RR0_2, RR3_1, n1, n3, n5, n19, ↓reduceIte]
  rw [c_like Cw_3 h hj, c_bc, k1, bcE_p k2, up2_same, up2_up2]
theorem c_asF (h : Cl I 3 ns ct) {j : Nat} (hj : j < ns.length) (Q : Int32 → Mem → Prop) : WI (d + 3) i_KN_asFist [.ref 0, .int (nI j)] (mm L I J) Q ↔ Q (2 * (nI (nmO ns j).length + nI (las (nmO ns j)))) (mm L I (up2 J 0 11 (J 0 11 + 1000 + 10 + 1))) := by
  rw [E_KN_asFist]
  simp only [mm_C, mm_R, mm_L, mm_I, mm_sI, CL0, CL1, CL3, CL5, CL19, RR0_0, RR0_1, RR0_2, RR3_1, n1, n3, n5, n19, ↓reduceIte, mm_J, mm_sJ]
  rw [c_asC h hj, up2_same, up2_up2]
theorem c_asT (h : Cl I 3 ns ct) {j : Nat} (hj : j < ns.length) (Q : Int32 → Mem → Prop) : WI (d + 5) i_KN_asThief [.ref 0, .int (nI j)] (mm L I J) Q ↔ Q (nI (nmO ns j).length - nI (pop (likN ns j)) + nI j) (mm L I (up2 J 0 11 (J 0 11 + 10000 + 100 + 1))) := by
  rw [E_KN_asThief]
  simp only [mm_C, mm_R, mm_L, mm_I, mm_sI, CL0, CL1, CL3, CL5, CL19, RR0_0, RR0_1, RR0_2, RR3_1, n1, n3, n5, n19, ↓reduceIte, mm_J, mm_sJ]
  rw [c_asL h hj, up2_same, up2_up2]
theorem c_asW (h : Cl I 3 ns ct) {j : Nat} (hj : j < ns.length) (Q : Int32 → Mem → Prop) : WI (d + 3) i_KN_asWidow [.ref 0, .int (nI j)] (mm L I J) Q ↔ Q (nI (nmO ns j).length + nI (roo (nmO ns j))) (mm L I (up2 J 0 11 (J 0 11 + 100000 + 1))) := by
  have h6 := h.2.1
  rw [E_KN_asWidow]
  simp only [mm_C, mm_R, mm_L, mm_I, mm_sI, CL0, CL1, CL3, CL5, CL19, RR0_0, RR0_1, RR0_2, RR3_1, n1, n3, n5, n19, ↓reduceIte, mm_J, mm_sJ]
  rw [c_asH h hj]
  simp only [mm_C, mm_R, mm_L, mm_I, mm_sI, CL0, CL1, CL3, CL5, CL19, RR0_0, RR0_1, RR0_2, RR3_1, n1, n3, n5, n19, ↓reduceIte]
  rw [c_name3 (by omega), mm_C, if_pos (w3 (by omega)).1, c_root (w3 (by omega)) (r3 h hj) (l3 h hj), up2_same, up2_up2]
theorem k_rateN (h : ClR I J ns ct ps im tx tr) {x y : Int32} (hx : x < 0 ∨ nI ns.length ≤ x) (Q : Int32 → Mem → Prop) : WI (d + 2) i_KN_rate [.ref 0, .int y, .int x] (mm L I J) Q ↔ Q (-1000000) (mm L I J) := by
  rw [E_KN_rate]
  simp only [mm_C, mm_R, mm_L, mm_I, mm_sI, CL0, CL1, CL3, CL5, CL19, RR0_0, RR0_1, RR0_2, RR3_1, n1, n3, n5, n19, ↓reduceIte]
  rw [c_hasN Cw_3 h.1 hx, if_pos rfl]
end KN4
end
section
theorem w196 : Rw 196 24 := by unfold Rw; decide
theorem w198 : Rw 198 24 := by unfold Rw; decide
section KN5
variable {d L : Nat} {I : Nat → Nat → Int32} {J : Nat → Nat → Int64} {ns : List (List Nat)} {ct : List Nat} {ps : List Cp} {im : Nat → Option Cp} {tx : List Nat} {tr : Int64}
theorem ClR_J (h : ClR I J ns ct ps im tx tr) (v : Int64) : ClR I (up2 J 0 11 v) ns ct ps im tx v := ⟨h.1, h.2.1, h.2.2.1, h.2.2.2.1, h.2.2.2.2.1, up2_same _ _ _ _⟩
theorem k_rateY (h : ClR I J ns ct ps im tx tr) {j : Nat} (hj : j < ns.length) (y : Int32) (Q : Int32 → Mem → Prop) : WI (d + 6) i_KN_rate [.ref 0, .int y, .int (nI j)] (mm L I J) Q ↔ (if Int32.toInt y = 0 then Q (nI (nmO ns j).length) (mm L I (up2 J 0 11 (tr + 1))) else if Int32.toInt y = 1 then Q (nI (nmO ns j).length + nI (las (nmO ns j))) (mm L I (up2 J 0 11 (tr + 10 + 1))) else if Int32.toInt y = 2 then Q (nI (nmO ns j).length - nI (pop (likN ns j))) (mm L I (up2 J 0 11 (tr + 100 + 1))) else if Int32.toInt y = 3 then Q (2 * (nI (nmO ns j).length + nI (las (nmO ns j)))) (mm L I (up2 J 0 11 (tr + 1000 + 10 + 1))) else if Int32.toInt y = 4 then Q (nI (nmO ns j).length - nI (pop (likN ns j)) + nI j) (mm L I (up2 J 0 11 (tr + 10000 + 100 + 1))) else if Int32.toInt y = 5 then Q (nI (nmO ns j).length + nI (roo (nmO ns j))) (mm L I (up2 J 0 11 (tr + 100000 + 1))) else Q (-1000000) (mm L I J)) := by
  have t := h.2.2.2.2.2
  rw [E_KN_rate]
  simp only [mm_C, mm_R, mm_L, mm_I, mm_sI, CL0, CL1, CL3, CL5, CL19, RR0_0, RR0_1, RR0_2, RR3_1, n1, n3, n5, n19, ↓reduceIte]
  rw [c_hasY Cw_3 h.1 hj, if_neg i10]
  simp only [mm_C, mm_R, mm_L, mm_I, mm_sI, CL0, CL1, CL3, CL5, CL19, RR0_0, RR0_1, RR0_2, RR3_1, n1, n3, n5, n19, ↓reduceIte]
  rw [c_asH h.1 hj, c_asC h.1 hj, c_asL h.1 hj, c_asF h.1 hj, c_asT h.1 hj, c_asW h.1 hj, t]
theorem k_campF (h : ClR I J ns ct ps im tx tr) {k : Nat} (hf : flt tx tx.length 0 0 0 false = some k) (hk : k ≤ 200) (Q : Int32 → Mem → Prop) : WI (d + 7) i_KN_camp [.ref 0] (mm L I J) Q ↔ Q (-10 - nI k) (mm L I J) := by
  have e : ¬ nI k = -1 := fun q => by
    have h0 : ¬ nI k < 0 := nI_pos (by omega)
    rw [q] at h0
    exact h0 (by decide)
  rw [E_KN_camp]
  simp only [mm_C, mm_R, mm_L, mm_I, mm_sI, CL0, CL1, CL3, CL5, CL19, RR0_0, RR0_1, RR0_2, RR3_1, n1, n3, n5, n19, ↓reduceIte]
  rw [c_fault h.2.2.1 h.2.2.2.1, hf]
  show (if nI k = -1 then _ else _) ↔ _
  rw [if_neg e]
  exact Iff.rfl
theorem k_camp_loop (h : ClR I J ns ct [] im [] tr) (x : Int32) (Q : Option Value → Mem → Prop) (hQ : ∀ I', ClR I' J ns ct [] (fun _ => none) [] tr → FrR 182 183 I I' → Q (some (.int (nI ns.length))) (mm L I' J)) : Wn (d + 1) i_KN_camp 45 [(0, .ref 0), (1, .int x), (2, .int 0)] [] (mm L I J) Q := by
  obtain ⟨a1, ⟨w, a2⟩, a3, a4, a5, a6⟩ := id h
  have e1 : (0 : Int32) + 1 = 1 := by decide
  have e2 : (1 : Int32) + 1 = 2 := by decide
  have e3 : Int32.toNatClampNeg 0 = 0 := by decide
  have e4 : Int32.toNatClampNeg 1 = 1 := by decide
  have hF : FrR 182 183 I (up2 (up2 I 182 0 0) 182 1 0) := FrR_tr (FrR_u (by omega) (by omega)) (FrR_u (by omega) (by omega))
  rw [H_KN_camp_45, if_pos (by decide)]
  simp only [mm_C, mm_R, mm_L, mm_I, mm_sI, CL0, CL1, CL3, CL5, CL19, RR0_0, RR0_1, RR0_2, RR3_1, n1, n3, n5, n19, ↓reduceIte, RR0_4, n182, CL182, LN182, vpb0, e1, e3]
  rw [if_pos ⟨trivial, by decide⟩, H_KN_camp_45, if_pos (by decide)]
  simp only [mm_C, mm_R, mm_L, mm_I, mm_sI, CL0, CL1, CL3, CL5, CL19, RR0_0, RR0_1, RR0_2, RR3_1, n1, n3, n5, n19, ↓reduceIte, RR0_4, n182, CL182, LN182, vpb0, e2, e4]
  rw [if_pos ⟨trivial, by decide⟩, H_KN_camp_45, if_neg (by decide)]
  have t := (Cl_fr hF (by omega) a1).1
  simp only [mm_C, mm_R, mm_L, mm_I, mm_sI, CL0, CL1, CL3, CL5, CL19, RR0_0, RR0_1, RR0_2, RR3_1, n1, n3, n5, n19, ↓reduceIte, t]
  refine hQ _ ⟨Cl_fr hF (by omega) a1, ⟨w, PcR_fr hF (by omega) a2⟩, TxR_fr hF (by omega) a3, SxR_fr hF (by omega) a4, ?_, a6⟩ hF
  intro m hm
  refine ⟨?_, fun p hp => by cases hp⟩
  rcases (show m = 0 ∨ m = 1 by omega) with e | e
  · rw [e, up2_other _ _ _ (by omega), up2_same]
    rfl
  · rw [e, up2_same]
    rfl
theorem k_campY (h : ClR I J ns ct ps im tx tr) (hf : flt tx tx.length 0 0 0 false = none) (Q : Int32 → Mem → Prop) (hQ : ∀ I', ClR I' J (tellF tx tx.length 0 []) [] [] (fun _ => none) [] tr → FrR 0 248 I I' → Q (nI (tellF tx tx.length 0 []).length) (mm L I' J)) : WI (d + 7) i_KN_camp [.ref 0] (mm L I J) Q := by
  obtain ⟨a1, ⟨w, a2⟩, a3, a4, a5, a6⟩ := id h
  rw [E_KN_camp]
  simp only [mm_C, mm_R, mm_L, mm_I, mm_sI, CL0, CL1, CL3, CL5, CL19, RR0_0, RR0_1, RR0_2, RR3_1, n1, n3, n5, n19, ↓reduceIte]
  rw [c_fault a3 a4, hf, if_pos (by rfl)]
  simp only [mm_C, mm_R, mm_L, mm_I, mm_sI, CL0, CL1, CL3, CL5, CL19, RR0_0, RR0_1, RR0_2, RR3_1, n1, n3, n5, n19, ↓reduceIte]
  refine c_tell a3 a4 hf _ (fun I' g1 g2 => ?_)
  have h1 := ClR_cur h g2 g1
  simp only [mm_C, mm_R, mm_L, mm_I, mm_sI, CL0, CL1, CL3, CL5, CL19, RR0_0, RR0_1, RR0_2, RR3_1, n1, n3, n5, n19, ↓reduceIte]
  rw [E_Text_empty]
  simp only [mm_C, mm_R, mm_L, mm_I, mm_sI, CL0, CL1, CL3, CL5, CL19, RR0_0, RR0_1, RR0_2, RR3_1, n1, n3, n5, n19, ↓reduceIte]
  have h2 := ClR_tx0 h1
  obtain ⟨b1, ⟨w, b2⟩, b3, b4, b5, b6⟩ := id h2
  refine c_forget b2 _ (fun I'' f1 f2 => ?_)
  have h3 : ClR I'' J (tellF tx tx.length 0 []) [] [] im [] tr := ⟨Cl_fr f2 (by omega) b1, ⟨w, f1⟩, TxR_fr f2 (by omega) b3, SxR_fr f2 (by omega) b4, ImR_fr f2 (by omega) b5, b6⟩
  refine k_camp_loop h3 _ (QI Q) (fun I3 p1 p2 => ?_)
  refine hQ I3 p1 (FrR_tr (FrR_w g2 (by omega) (by omega)) (FrR_tr (FrR_u (by omega) (by omega)) (FrR_tr (FrR_w f2 (by omega) (by omega)) (FrR_w p2 (by omega) (by omega)))))
theorem k_bendN (h : ClR I J ns ct ps im tx tr) {x y : Int32} (hx : x < 0 ∨ nI ns.length ≤ x) (Q : Int32 → Mem → Prop) : WI (d + 2) i_KN_bends [.ref 0, .int x, .int y] (mm L I J) Q ↔ Q (-1) (mm L I J) := by
  rw [E_KN_bends]
  simp only [mm_C, mm_R, mm_L, mm_I, mm_sI, CL0, CL1, CL3, CL5, CL19, RR0_0, RR0_1, RR0_2, RR3_1, n1, n3, n5, n19, ↓reduceIte]
  rw [c_hasN Cw_3 h.1 hx, if_pos rfl]
theorem k_bendN2 (h : ClR I J ns ct ps im tx tr) {a : Nat} (ha : a < ns.length) {y : Int32} (hy : y < 0 ∨ nI ns.length ≤ y) (Q : Int32 → Mem → Prop) : WI (d + 2) i_KN_bends [.ref 0, .int (nI a), .int y] (mm L I J) Q ↔ Q (-1) (mm L I J) := by
  rw [E_KN_bends]
  simp only [mm_C, mm_R, mm_L, mm_I, mm_sI, CL0, CL1, CL3, CL5, CL19, RR0_0, RR0_1, RR0_2, RR3_1, n1, n3, n5, n19, ↓reduceIte]
  rw [c_hasY Cw_3 h.1 ha, if_neg i10]
  simp only [mm_C, mm_R, mm_L, mm_I, mm_sI, CL0, CL1, CL3, CL5, CL19, RR0_0, RR0_1, RR0_2, RR3_1, n1, n3, n5, n19, ↓reduceIte]
  rw [c_hasN Cw_3 h.1 hy, if_pos rfl]
theorem k_bendN3 (h : ClR I J ns ct ps im tx tr) {a : Nat} (ha : a < ns.length) (Q : Int32 → Mem → Prop) : WI (d + 2) i_KN_bends [.ref 0, .int (nI a), .int (nI a)] (mm L I J) Q ↔ Q (-1) (mm L I J) := by
  rw [E_KN_bends]
  simp only [mm_C, mm_R, mm_L, mm_I, mm_sI, CL0, CL1, CL3, CL5, CL19, RR0_0, RR0_1, RR0_2, RR3_1, n1, n3, n5, n19, ↓reduceIte]
  rw [c_hasY Cw_3 h.1 ha, if_neg i10]
  simp only [mm_C, mm_R, mm_L, mm_I, mm_sI, CL0, CL1, CL3, CL5, CL19, RR0_0, RR0_1, RR0_2, RR3_1, n1, n3, n5, n19, ↓reduceIte]
  rw [c_hasY Cw_3 h.1 ha, if_neg i10]
def joi (l m : List Nat) : List Nat := tieAll (tieAll [] l) m
theorem joi_len (l m : List Nat) : (joi l m).length ≤ l.length + m.length := by
  have h1 := tieAll_len m (tieAll [] l)
  have h2 := tieAll_len l []
  rw [List.length_nil] at h2
  unfold joi
  omega
theorem k_bend (h : ClR I J ns ct ps im tx tr) {a b : Nat} (ha : a < ns.length) (hb : b < ns.length) (hne : a ≠ b) (Q : Int32 → Mem → Prop)
    (hF : ¬ ((joi (nmO ns a) (nmO ns b)).length ≤ 12 ∧ (joi (nmO ns b) (nmO ns a)).length ≤ 12) → ∀ I', ClR I' J ns ct ps im tx tr → FrR 0 248 I I' → Q (-3) (mm L I' J))
    (hY : (joi (nmO ns a) (nmO ns b)).length ≤ 12 → (joi (nmO ns b) (nmO ns a)).length ≤ 12 → ∀ I', ClR I' J ((ns.set a (joi (nmO ns a) (nmO ns b))).set b (joi (nmO ns b) (nmO ns a))) ct (((ns, ct) :: ps).take 10) im tx tr → FrR 0 248 I I' → Q (nI (joi (nmO ns a) (nmO ns b)).length) (mm L I' J)) : WI (d + 6) i_KN_bends [.ref 0, .int (nI a), .int (nI b)] (mm L I J) Q := by
  have h6 := h.1.2.1
  have wa := w3 (show a < 6 by omega)
  have wb := w3 (show b < 6 by omega)
  have la := l3 h.1 ha
  have lb := l3 h.1 hb
  have j1 := joi_len (nmO ns a) (nmO ns b)
  have j2 := joi_len (nmO ns b) (nmO ns a)
  rw [E_KN_bends]
  simp only [mm_C, mm_R, mm_L, mm_I, mm_sI, CL0, CL1, CL3, CL5, CL19, RR0_0, RR0_1, RR0_2, RR3_1, n1, n3, n5, n19, ↓reduceIte]
  rw [c_hasY Cw_3 h.1 ha, if_neg i10]
  simp only [mm_C, mm_R, mm_L, mm_I, mm_sI, CL0, CL1, CL3, CL5, CL19, RR0_0, RR0_1, RR0_2, RR3_1, n1, n3, n5, n19, ↓reduceIte]
  rw [c_hasY Cw_3 h.1 hb, if_neg i10, if_neg (fun q => hne ((nI_eq (by omega) (by omega)).mp q))]
  simp only [mm_C, mm_R, mm_L, mm_I, mm_sI, CL0, CL1, CL3, CL5, CL19, RR0_0, RR0_1, RR0_2, RR3_1, n1, n3, n5, n19, ↓reduceIte, RR0_7, RR0_8, n196, n198]
  rw [c_name3 (by omega)]
  simp only [mm_C, mm_R, mm_L, mm_I, mm_sI, CL0, CL1, CL3, CL5, CL19, RR0_0, RR0_1, RR0_2, RR3_1, n1, n3, n5, n19, ↓reduceIte]
  rw [c_name3 (by omega), mm_C, if_pos w196.1]
  refine c_joined w196 wa (by omega) wb (by omega) (r3 h.1 ha) la (r3 h.1 hb) lb (by omega) _ (fun I1 p1 p2 => ?_)
  have h1 := ClR_sc h (FrR_1 (lo := 196) (hi := 198) p2 (by omega) (by omega)) (by omega) (by omega)
  simp only [mm_C, mm_R, mm_L, mm_I, mm_sI, CL0, CL1, CL3, CL5, CL19, RR0_0, RR0_1, RR0_2, RR3_1, n1, n3, n5, n19, ↓reduceIte, RR0_7, RR0_8, n196, n198]
  rw [c_name3 (by omega)]
  simp only [mm_C, mm_R, mm_L, mm_I, mm_sI, CL0, CL1, CL3, CL5, CL19, RR0_0, RR0_1, RR0_2, RR3_1, n1, n3, n5, n19, ↓reduceIte]
  rw [c_name3 (by omega), mm_C, if_pos w198.1]
  refine c_joined w198 wb (by omega) wa (by omega) (r3 h1.1 hb) lb (r3 h1.1 ha) la (by omega) _ (fun I2 q1 q2 => ?_)
  have h2 := ClR_sc h1 (FrR_1 (lo := 198) (hi := 200) q2 (by omega) (by omega)) (by omega) (by omega)
  have F2 : FrR 0 248 I I2 := FrR_tr (FrR_1 p2 (by omega) (by omega)) (FrR_1 q2 (by omega) (by omega))
  have p1 : Rl I2 196 (joi (nmO ns a) (nmO ns b)) := Rl_fr w198 w196 (by omega) q2 p1
  have q1 : Rl I2 198 (joi (nmO ns b) (nmO ns a)) := q1
  simp only [mm_C, mm_R, mm_L, mm_I, mm_sI, CL0, CL1, CL3, CL5, CL19, RR0_0, RR0_1, RR0_2, RR3_1, n1, n3, n5, n19, ↓reduceIte, RR0_7, RR0_8, n196, n198, w196.1, w198.1, p1.1, q1.1]
  by_cases e1 : (joi (nmO ns a) (nmO ns b)).length ≤ 12
  · have x1 : ¬ nI 12 < nI (joi (nmO ns a) (nmO ns b)).length := nI_nlt e1 (by omega)
    have x1 : ¬ 12 < nI (joi (nmO ns a) (nmO ns b)).length := x1
    rw [if_neg x1]
    by_cases e2 : (joi (nmO ns b) (nmO ns a)).length ≤ 12
    · have x2 : ¬ nI 12 < nI (joi (nmO ns b) (nmO ns a)).length := nI_nlt e2 (by omega)
      have x2 : ¬ 12 < nI (joi (nmO ns b) (nmO ns a)).length := x2
      rw [if_neg x2]
      obtain ⟨a1, ⟨w, a2⟩, a3, a4, a5, a6⟩ := id h2
      refine c_rem a2 a1 _ (fun I3 w' g1 g2 => ?_)
      have h3 : ClR I3 J ns ct (((ns, ct) :: ps).take 10) im tx tr := ⟨Cl_fr g2 (by omega) a1, ⟨w', g1⟩, TxR_fr g2 (by omega) a3, SxR_fr g2 (by omega) a4, ImR_fr g2 (by omega) a5, a6⟩
      have p3 : Rl I3 196 (joi (nmO ns a) (nmO ns b)) := Rl_keep p1 (g2 _ (by omega)) (g2 _ (by omega))
      have q3 : Rl I3 198 (joi (nmO ns b) (nmO ns a)) := Rl_keep q1 (g2 _ (by omega)) (g2 _ (by omega))
      simp only [mm_C, mm_R, mm_L, mm_I, mm_sI, CL0, CL1, CL3, CL5, CL19, RR0_0, RR0_1, RR0_2, RR3_1, n1, n3, n5, n19, ↓reduceIte]
      rw [c_name3 (by omega)]
      simp only [mm_C, mm_R, mm_L, mm_I, mm_sI, CL0, CL1, CL3, CL5, CL19, RR0_0, RR0_1, RR0_2, RR3_1, n1, n3, n5, n19, ↓reduceIte, RR0_7, n196]
      rw [if_pos wa.1]
      refine c_become wa w196 (by omega) p3 (by omega) e1 _ (fun I4 f1 f2 => ?_)
      have h4 := ClR_cur h3 (FrR_1 f2 (by omega) (by omega)) (set3 h3.1 ha f2 f1 e1)
      have p4 : Rl I4 196 (joi (nmO ns a) (nmO ns b)) := Rl_fr wa w196 (by omega) f2 p3
      have q4 : Rl I4 198 (joi (nmO ns b) (nmO ns a)) := Rl_fr wa w198 (by omega) f2 q3
      simp only [mm_C, mm_R, mm_L, mm_I, mm_sI, CL0, CL1, CL3, CL5, CL19, RR0_0, RR0_1, RR0_2, RR3_1, n1, n3, n5, n19, ↓reduceIte]
      rw [c_name3 (by omega)]
      simp only [mm_C, mm_R, mm_L, mm_I, mm_sI, CL0, CL1, CL3, CL5, CL19, RR0_0, RR0_1, RR0_2, RR3_1, n1, n3, n5, n19, ↓reduceIte, RR0_8, n198]
      rw [if_pos wb.1]
      refine c_become wb w198 (by omega) q4 (by omega) e2 _ (fun I5 u1 u2 => ?_)
      have h5 := ClR_cur h4 (FrR_1 u2 (by omega) (by omega)) (set3 h4.1 (by rw [List.length_set]; exact hb) u2 u1 e2)
      have p5 : Rl I5 196 (joi (nmO ns a) (nmO ns b)) := Rl_fr wb w196 (by omega) u2 p4
      simp only [mm_C, mm_R, mm_L, mm_I, mm_sI, CL0, CL1, CL3, CL5, CL19, RR0_0, RR0_1, RR0_2, RR3_1, n1, n3, n5, n19, ↓reduceIte, RR0_7, n196, w196.1, p5.1]
      exact hY e1 e2 I5 h5 (FrR_tr F2 (FrR_tr (FrR_w g2 (by omega) (by omega)) (FrR_tr (FrR_1 f2 (by omega) (by omega)) (FrR_1 u2 (by omega) (by omega)))))
    · have x2 : nI 12 < nI (joi (nmO ns b) (nmO ns a)).length := nI_lt (by omega) (by omega)
      have x2 : 12 < nI (joi (nmO ns b) (nmO ns a)).length := x2
      rw [if_pos x2]
      exact hF (fun q => e2 q.2) I2 h2 F2
  · have x1 : nI 12 < nI (joi (nmO ns a) (nmO ns b)).length := nI_lt (by omega) (by omega)
    have x1 : 12 < nI (joi (nmO ns a) (nmO ns b)).length := x1
    rw [if_pos x1]
    exact hF (fun q => e1 q.1) I2 h2 F2
end KN5
end
section
/-! ===== fractions ===== -/
theorem l63 : ∀ {n : Nat}, n < 2 ^ 60 → n < 2 ^ 63 := fun h => by omega
theorem lN_0 : lN 0 = 0 := by decide
theorem lN_z {b : Nat} (h : b < 2 ^ 60) : lN b = 0 ↔ b = 0 := by
  have := pk_lEQ (a := b) (b := 0) (by omega) (by omega)
  rw [lN_0] at this
  exact this
theorem lc_z {b : Nat} (h : b < 2 ^ 60) : lg_cmp (lN b) 0 = 0 ↔ b = 0 := (lg_cmp_eq _ _).trans (lN_z h)
theorem lN_rem {a b : Nat} (ha : a < 2 ^ 60) (h0 : 0 < b) (hb : b < 2 ^ 60) : lN a - lN a / lN b * lN b = lN (a % b) := pk_lRem (by omega) h0 (by omega)
section Frac
variable {d L : Nat} {M : Mem}
theorem cd_step {a b s : Nat} (ha : a < 2 ^ 60) (h0 : 0 < b) (hb : b < 2 ^ 60) (hs : s < 128) (Q : Option Value → Mem → Prop) : Wn d i_KN_commonDivisor 3 [(0, .long (lN a)), (2, .long (lN b)), (4, .int (nI s))] [] M Q ↔ Wn d i_KN_commonDivisor 3 [(0, .long (lN b)), (2, .long (lN (a % b))), (4, .int (nI (s + 1)))] [] M Q := by
  have h1 : nI s < nI 128 := nI_lt hs (by omega)
  have h1 : nI s < 128 := h1
  rw [H_KN_commonDivisor_3, if_pos h1, if_neg (fun q => by have := (lc_z hb).mp q; omega), if_neg (fun q => by have := (lN_z hb).mp q; omega), lN_rem ha h0 hb, nI_1]
theorem cd_end {a s : Nat} (hs : s < 128) (Q : Option Value → Mem → Prop) : Wn d i_KN_commonDivisor 3 [(0, .long (lN a)), (2, .long (lN 0)), (4, .int (nI s))] [] M Q ↔ Q (some (.long (lN a))) M := by
  have h1 : nI s < nI 128 := nI_lt hs (by omega)
  have h1 : nI s < 128 := h1
  rw [H_KN_commonDivisor_3, if_pos h1, if_pos ((lc_z (by omega)).mpr rfl)]
theorem cd_loop (Q : Option Value → Mem → Prop) : ∀ n a b s, a < 2 ^ 60 → b < 2 ^ 60 → b < 2 ^ n → s + 2 * n < 128 →
    (Wn d i_KN_commonDivisor 3 [(0, .long (lN a)), (2, .long (lN b)), (4, .int (nI s))] [] M Q ↔ Q (some (.long (lN (Nat.gcd b a)))) M) := by
  intro n
  induction n with
  | zero =>
    intro a b s ha hb hn hs
    have : b = 0 := by rw [Nat.pow_zero] at hn; omega
    rw [this, cd_end (by omega), Nat.gcd_zero_left]
  | succ n ih =>
    intro a b s ha hb hn hs
    by_cases b0 : b = 0
    · rw [b0, cd_end (by omega), Nat.gcd_zero_left]
    · have r1 := Nat.mod_lt a (show 0 < b by omega)
      rw [cd_step ha (by omega) hb (by omega), Nat.gcd_rec b a]
      by_cases r0 : a % b = 0
      · rw [r0, cd_end (by omega), Nat.gcd_zero_left]
      · have r2 := Nat.mod_lt b (show 0 < a % b by omega)
        have r3 : b % (a % b) < 2 ^ n := by
          have e := Nat.div_add_mod b (a % b)
          have q1 : 1 ≤ b / (a % b) := (Nat.one_le_div_iff (by omega)).mpr (by omega)
          have q2 : a % b * 1 ≤ a % b * (b / (a % b)) := Nat.mul_le_mul_left _ q1
          rw [Nat.pow_succ] at hn
          omega
        rw [cd_step hb (by omega) (by omega) (by omega), Nat.gcd_rec (a % b) b, ih (a % b) (b % (a % b)) (s + 1 + 1) (by omega) (by omega) r3 (by omega)]
theorem c_cd {a b : Nat} (ha : a < 2 ^ 60) (hb : b < 2 ^ 60) (Q : Int64 → Mem → Prop) : WL d i_KN_commonDivisor [.long (lN a), .long (lN b)] M Q ↔ Q (lN (Nat.gcd b a)) M := by
  rw [E_KN_commonDivisor]
  have := cd_loop (d := d) (M := M) (QL Q) 60 a b 0 ha hb hb (by omega)
  rw [nI_0] at this
  exact this
/-- a fraction in least terms -/
def lea (a b : Nat) (w : Int32) : Int64 := if w = 0 then lN a / lN (Nat.gcd b a) else lN b / lN (Nat.gcd b a)
theorem gcd_b {a b : Nat} (h0 : 0 < b) : 0 < Nat.gcd b a ∧ Nat.gcd b a ≤ b := ⟨Nat.gcd_pos_of_pos_left _ h0, Nat.gcd_le_left _ h0⟩
theorem c_lea {a b : Nat} (ha : a < 2 ^ 60) (hb : b < 2 ^ 60) (h0 : 0 < b) (w : Int32) (Q : Int64 → Mem → Prop) : WL (d + 1) i_KN_leastTerms [.long (lN a), .long (lN b), .int w] M Q ↔ Q (lea a b w) M := by
  obtain ⟨g1, g2⟩ := gcd_b (a := a) h0
  have e : (if lN (Nat.gcd b a) < 1 then (1 : Int64) else lN (Nat.gcd b a)) = lN (Nat.gcd b a) := by
    have : ¬ lN (Nat.gcd b a) < lN 1 := fun q => by have := (pk_lLT (by omega) (by omega)).mp q; omega
    have : ¬ lN (Nat.gcd b a) < 1 := this
    rw [if_neg this]
  have z : ¬ lN (Nat.gcd b a) = 0 := fun q => by have := (lN_z (by omega)).mp q; omega
  rw [E_KN_leastTerms, c_cd ha hb, e, if_neg z, if_neg z]
  unfold lea
  by_cases w0 : w = 0
  · rw [if_pos w0, if_pos w0]
  · rw [if_neg w0, if_neg w0]
theorem m_lea_loop (u v : Int64) (w : Int32) (Q : Option Value → Mem → Prop) : ∀ n a b, b < n → a < 2 ^ 60 → b < 2 ^ 60 → 0 < Nat.gcd b a →
    (Wn d i_MD_least 6 [(0, .long u), (2, .long v), (4, .int w), (5, .long (lN a)), (7, .long (lN b))] [] M Q ↔ Q (some (.long (if w = 0 then u / lN (Nat.gcd b a) else v / lN (Nat.gcd b a)))) M) := by
  intro n
  induction n with
  | zero => intro a b h; exact absurd h (Nat.not_lt_zero b)
  | succ n ih =>
    intro a b h ha hb hg
    rw [H_MD_least_6]
    by_cases b0 : b = 0
    · rw [if_pos ((lc_z hb).mpr b0)]
      rw [b0, Nat.gcd_zero_left] at hg
      have z : ¬ lN a = 0 := fun q => by have := (lN_z ha).mp q; omega
      rw [if_neg z, if_neg z, b0, Nat.gcd_zero_left]
      by_cases w0 : w = 0
      · rw [if_pos w0, if_pos w0]
      · rw [if_neg w0, if_neg w0]
    · have r1 := Nat.mod_lt a (show 0 < b by omega)
      rw [if_neg (fun q => b0 ((lc_z hb).mp q)), if_neg (fun q => b0 ((lN_z hb).mp q)), lN_rem ha (by omega) hb, ih b (a % b) (by omega) hb (by omega) (by rw [← Nat.gcd_rec]; exact hg), ← Nat.gcd_rec]
theorem m_lea {a b : Nat} (ha : a < 2 ^ 60) (hb : b < 2 ^ 60) (h0 : 0 < b) (w : Int32) (Q : Int64 → Mem → Prop) : WL d i_MD_least [.long (lN a), .long (lN b), .int w] M Q ↔ Q (lea a b w) M := by
  rw [E_MD_least]
  exact m_lea_loop (lN a) (lN b) w (QL Q) (b + 1) a b (by omega) ha hb (gcd_b h0).1
theorem c_pow_loop (x e : Nat) (hx : x < 2 ^ 31) (he : e < 2 ^ 30) (Q : Option Value → Mem → Prop) : ∀ n k s, k + n = e →
    (Wn d i_KN_power 5 [(0, .int (nI x)), (1, .int (nI e)), (2, .long (lN s)), (4, .int (nI k))] [] M Q ↔ Q (some (.long (lN (s * x ^ n)))) M) := by
  intro n
  induction n with
  | zero =>
    intro k s hk
    rw [H_KN_power_5, if_neg (nI_nlt (by omega) (by omega)), Nat.pow_zero, Nat.mul_one]
  | succ n ih =>
    intro k s hk
    rw [H_KN_power_5, if_pos (nI_lt (by omega) (by omega)), nI_l hx, lN_mul, nI_1, ih _ _ (by omega), Nat.mul_assoc, Nat.pow_succ, Nat.mul_comm (x ^ n) x]
theorem c_pow {x e : Nat} (hx : x < 2 ^ 31) (he : e < 2 ^ 30) (Q : Int64 → Mem → Prop) : WL d i_KN_power [.int (nI x), .int (nI e)] M Q ↔ Q (lN (x ^ e)) M := by
  rw [E_KN_power]
  have := c_pow_loop (d := d) (M := M) x e hx he (QL Q) e 0 1 (by omega)
  rw [nI_0, Nat.one_mul] at this
  exact this
end Frac
end
