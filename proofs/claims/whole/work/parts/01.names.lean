-- ===== PART A: goes FIRST, ahead of the names: the tables' words, and 'selects' of the private methods out of them =====
/-- a private method of a class that the tables say can be made, by its rows of tables_1 -/
def lw_okq (q : MethodName × Nat) : Prop := (q.1.cls ≠ "java/lang/invoke/MethodHandle" ∧ q.1.cls ≠ "java/lang/invoke/VarHandle") ∧ Cond.instantiable q.1.cls q.2 ∈ tables_1 ∧ Cond.privateMethod q.1 ∈ tables_1 ∧ Cond.instanceMethod q.1 ∈ tables_1
theorem lw_p0 : lw_okq (⟨"KnotNames$Text", "append", "(I)Z"⟩, 2) := ⟨⟨by decide +kernel, by decide +kernel⟩, List.mem_of_getElem? (i := 25) (by decide +kernel), List.mem_of_getElem? (i := 204) (by decide +kernel), List.mem_of_getElem? (i := 205) (by decide +kernel)⟩
theorem lw_p1 : lw_okq (⟨"KnotNames$Text", "empty", "()V"⟩, 2) := ⟨⟨by decide +kernel, by decide +kernel⟩, List.mem_of_getElem? (i := 25) (by decide +kernel), List.mem_of_getElem? (i := 212) (by decide +kernel), List.mem_of_getElem? (i := 213) (by decide +kernel)⟩
theorem lw_p2 : lw_okq (⟨"KnotNames$Text", "fault", "()I"⟩, 2) := ⟨⟨by decide +kernel, by decide +kernel⟩, List.mem_of_getElem? (i := 25) (by decide +kernel), List.mem_of_getElem? (i := 220) (by decide +kernel), List.mem_of_getElem? (i := 221) (by decide +kernel)⟩
theorem lw_p3 : lw_okq (⟨"KnotNames$Text", "tell", "(LKnotNames$Camp;)V"⟩, 2) := ⟨⟨by decide +kernel, by decide +kernel⟩, List.mem_of_getElem? (i := 25) (by decide +kernel), List.mem_of_getElem? (i := 312) (by decide +kernel), List.mem_of_getElem? (i := 313) (by decide +kernel)⟩
theorem lw_p4 : lw_okq (⟨"KnotNames$Camp", "empty", "()V"⟩, 3) := ⟨⟨by decide +kernel, by decide +kernel⟩, List.mem_of_getElem? (i := 40) (by decide +kernel), List.mem_of_getElem? (i := 316) (by decide +kernel), List.mem_of_getElem? (i := 317) (by decide +kernel)⟩
theorem lw_p5 : lw_okq (⟨"KnotNames$Row", "empty", "()I"⟩, 2) := ⟨⟨by decide +kernel, by decide +kernel⟩, List.mem_of_getElem? (i := 47) (by decide +kernel), List.mem_of_getElem? (i := 320) (by decide +kernel), List.mem_of_getElem? (i := 321) (by decide +kernel)⟩
theorem lw_p6 : lw_okq (⟨"KnotNames$Camp", "addHerder", "()V"⟩, 3) := ⟨⟨by decide +kernel, by decide +kernel⟩, List.mem_of_getElem? (i := 40) (by decide +kernel), List.mem_of_getElem? (i := 324) (by decide +kernel), List.mem_of_getElem? (i := 325) (by decide +kernel)⟩
theorem lw_p7 : lw_okq (⟨"KnotNames$Camp", "tieLastHerder", "(I)V"⟩, 3) := ⟨⟨by decide +kernel, by decide +kernel⟩, List.mem_of_getElem? (i := 40) (by decide +kernel), List.mem_of_getElem? (i := 328) (by decide +kernel), List.mem_of_getElem? (i := 329) (by decide +kernel)⟩
theorem lw_p8 : lw_okq (⟨"KnotNames$Row", "appendTight", "(I)V"⟩, 2) := ⟨⟨by decide +kernel, by decide +kernel⟩, List.mem_of_getElem? (i := 47) (by decide +kernel), List.mem_of_getElem? (i := 332) (by decide +kernel), List.mem_of_getElem? (i := 333) (by decide +kernel)⟩
theorem lw_p9 : lw_okq (⟨"KnotNames$Row", "endsUndoing", "(I)Z"⟩, 2) := ⟨⟨by decide +kernel, by decide +kernel⟩, List.mem_of_getElem? (i := 47) (by decide +kernel), List.mem_of_getElem? (i := 336) (by decide +kernel), List.mem_of_getElem? (i := 337) (by decide +kernel)⟩
theorem lw_p10 : lw_okq (⟨"KnotNames$Row", "dropLast", "()V"⟩, 2) := ⟨⟨by decide +kernel, by decide +kernel⟩, List.mem_of_getElem? (i := 47) (by decide +kernel), List.mem_of_getElem? (i := 343) (by decide +kernel), List.mem_of_getElem? (i := 344) (by decide +kernel)⟩
theorem lw_p11 : lw_okq (⟨"KnotNames$Row", "append", "(I)V"⟩, 2) := ⟨⟨by decide +kernel, by decide +kernel⟩, List.mem_of_getElem? (i := 47) (by decide +kernel), List.mem_of_getElem? (i := 347) (by decide +kernel), List.mem_of_getElem? (i := 348) (by decide +kernel)⟩
theorem lw_p12 : lw_okq (⟨"KnotNames$Past", "forget", "()V"⟩, 3) := ⟨⟨by decide +kernel, by decide +kernel⟩, List.mem_of_getElem? (i := 82) (by decide +kernel), List.mem_of_getElem? (i := 351) (by decide +kernel), List.mem_of_getElem? (i := 352) (by decide +kernel)⟩
theorem lw_p13 : lw_okq (⟨"KnotNames$Camp", "has", "(I)Z"⟩, 3) := ⟨⟨by decide +kernel, by decide +kernel⟩, List.mem_of_getElem? (i := 40) (by decide +kernel), List.mem_of_getElem? (i := 360) (by decide +kernel), List.mem_of_getElem? (i := 361) (by decide +kernel)⟩
theorem lw_p14 : lw_okq (⟨"KnotNames$Camp", "nameOf", "(I)LKnotNames$Row;"⟩, 3) := ⟨⟨by decide +kernel, by decide +kernel⟩, List.mem_of_getElem? (i := 40) (by decide +kernel), List.mem_of_getElem? (i := 365) (by decide +kernel), List.mem_of_getElem? (i := 366) (by decide +kernel)⟩
theorem lw_p15 : lw_okq (⟨"KnotNames$Row", "at", "(I)I"⟩, 2) := ⟨⟨by decide +kernel, by decide +kernel⟩, List.mem_of_getElem? (i := 47) (by decide +kernel), List.mem_of_getElem? (i := 372) (by decide +kernel), List.mem_of_getElem? (i := 373) (by decide +kernel)⟩
def lw_privs_1 : List (MethodName × Nat) := [(⟨"KnotNames$Text", "append", "(I)Z"⟩, 2), (⟨"KnotNames$Text", "empty", "()V"⟩, 2), (⟨"KnotNames$Text", "fault", "()I"⟩, 2), (⟨"KnotNames$Text", "tell", "(LKnotNames$Camp;)V"⟩, 2), (⟨"KnotNames$Camp", "empty", "()V"⟩, 3), (⟨"KnotNames$Row", "empty", "()I"⟩, 2), (⟨"KnotNames$Camp", "addHerder", "()V"⟩, 3), (⟨"KnotNames$Camp", "tieLastHerder", "(I)V"⟩, 3), (⟨"KnotNames$Row", "appendTight", "(I)V"⟩, 2), (⟨"KnotNames$Row", "endsUndoing", "(I)Z"⟩, 2), (⟨"KnotNames$Row", "dropLast", "()V"⟩, 2), (⟨"KnotNames$Row", "append", "(I)V"⟩, 2), (⟨"KnotNames$Past", "forget", "()V"⟩, 3), (⟨"KnotNames$Camp", "has", "(I)Z"⟩, 3), (⟨"KnotNames$Camp", "nameOf", "(I)LKnotNames$Row;"⟩, 3), (⟨"KnotNames$Row", "at", "(I)I"⟩, 2)]
theorem lw_r1 : ∀ q ∈ lw_privs_1, lw_okq q := List.forall_mem_cons.mpr ⟨lw_p0, List.forall_mem_cons.mpr ⟨lw_p1, List.forall_mem_cons.mpr ⟨lw_p2, List.forall_mem_cons.mpr ⟨lw_p3, List.forall_mem_cons.mpr ⟨lw_p4, List.forall_mem_cons.mpr ⟨lw_p5, List.forall_mem_cons.mpr ⟨lw_p6, List.forall_mem_cons.mpr ⟨lw_p7, List.forall_mem_cons.mpr ⟨lw_p8, List.forall_mem_cons.mpr ⟨lw_p9, List.forall_mem_cons.mpr ⟨lw_p10, List.forall_mem_cons.mpr ⟨lw_p11, List.forall_mem_cons.mpr ⟨lw_p12, List.forall_mem_cons.mpr ⟨lw_p13, List.forall_mem_cons.mpr ⟨lw_p14, List.forall_mem_cons.mpr ⟨lw_p15, fun _ h => absurd h List.not_mem_nil⟩⟩⟩⟩⟩⟩⟩⟩⟩⟩⟩⟩⟩⟩⟩⟩
theorem lw_p16 : lw_okq (⟨"KnotNames$Camp", "named", "()I"⟩, 3) := ⟨⟨by decide +kernel, by decide +kernel⟩, List.mem_of_getElem? (i := 40) (by decide +kernel), List.mem_of_getElem? (i := 384) (by decide +kernel), List.mem_of_getElem? (i := 385) (by decide +kernel)⟩
theorem lw_p17 : lw_okq (⟨"KnotNames$Camp", "unlikeNames", "()I"⟩, 3) := ⟨⟨by decide +kernel, by decide +kernel⟩, List.mem_of_getElem? (i := 40) (by decide +kernel), List.mem_of_getElem? (i := 388) (by decide +kernel), List.mem_of_getElem? (i := 389) (by decide +kernel)⟩
theorem lw_p18 : lw_okq (⟨"KnotNames$Camp", "calledLike", "(I)I"⟩, 3) := ⟨⟨by decide +kernel, by decide +kernel⟩, List.mem_of_getElem? (i := 40) (by decide +kernel), List.mem_of_getElem? (i := 392) (by decide +kernel), List.mem_of_getElem? (i := 393) (by decide +kernel)⟩
theorem lw_p19 : lw_okq (⟨"KnotNames$Row", "isLike", "(LKnotNames$Row;)Z"⟩, 2) := ⟨⟨by decide +kernel, by decide +kernel⟩, List.mem_of_getElem? (i := 47) (by decide +kernel), List.mem_of_getElem? (i := 396) (by decide +kernel), List.mem_of_getElem? (i := 397) (by decide +kernel)⟩
theorem lw_p20 : lw_okq (⟨"KnotNames$Row", "commonStart", "(LKnotNames$Row;)I"⟩, 2) := ⟨⟨by decide +kernel, by decide +kernel⟩, List.mem_of_getElem? (i := 47) (by decide +kernel), List.mem_of_getElem? (i := 400) (by decide +kernel), List.mem_of_getElem? (i := 401) (by decide +kernel)⟩
theorem lw_p21 : lw_okq (⟨"KnotNames$Camp", "turns", "()I"⟩, 3) := ⟨⟨by decide +kernel, by decide +kernel⟩, List.mem_of_getElem? (i := 40) (by decide +kernel), List.mem_of_getElem? (i := 406) (by decide +kernel), List.mem_of_getElem? (i := 407) (by decide +kernel)⟩
theorem lw_p22 : lw_okq (⟨"KnotNames$Row", "takesTight", "(I)Z"⟩, 2) := ⟨⟨by decide +kernel, by decide +kernel⟩, List.mem_of_getElem? (i := 47) (by decide +kernel), List.mem_of_getElem? (i := 417) (by decide +kernel), List.mem_of_getElem? (i := 418) (by decide +kernel)⟩
theorem lw_p23 : lw_okq (⟨"KnotNames$Past", "remember", "(LKnotNames$Camp;)V"⟩, 3) := ⟨⟨by decide +kernel, by decide +kernel⟩, List.mem_of_getElem? (i := 82) (by decide +kernel), List.mem_of_getElem? (i := 421) (by decide +kernel), List.mem_of_getElem? (i := 422) (by decide +kernel)⟩
theorem lw_p24 : lw_okq (⟨"KnotNames$Camp", "become", "(LKnotNames$Camp;)V"⟩, 3) := ⟨⟨by decide +kernel, by decide +kernel⟩, List.mem_of_getElem? (i := 40) (by decide +kernel), List.mem_of_getElem? (i := 425) (by decide +kernel), List.mem_of_getElem? (i := 426) (by decide +kernel)⟩
theorem lw_p25 : lw_okq (⟨"KnotNames$Row", "become", "(LKnotNames$Row;)V"⟩, 2) := ⟨⟨by decide +kernel, by decide +kernel⟩, List.mem_of_getElem? (i := 47) (by decide +kernel), List.mem_of_getElem? (i := 429) (by decide +kernel), List.mem_of_getElem? (i := 430) (by decide +kernel)⟩
theorem lw_p26 : lw_okq (⟨"KnotNames$Row", "last", "()I"⟩, 2) := ⟨⟨by decide +kernel, by decide +kernel⟩, List.mem_of_getElem? (i := 47) (by decide +kernel), List.mem_of_getElem? (i := 439) (by decide +kernel), List.mem_of_getElem? (i := 440) (by decide +kernel)⟩
theorem lw_p27 : lw_okq (⟨"KnotNames$Row", "becomeJoined", "(LKnotNames$Row;LKnotNames$Row;)V"⟩, 2) := ⟨⟨by decide +kernel, by decide +kernel⟩, List.mem_of_getElem? (i := 47) (by decide +kernel), List.mem_of_getElem? (i := 448) (by decide +kernel), List.mem_of_getElem? (i := 449) (by decide +kernel)⟩
theorem lw_p28 : lw_okq (⟨"KnotNames$Row", "becomeTight", "(LKnotNames$Row;)V"⟩, 2) := ⟨⟨by decide +kernel, by decide +kernel⟩, List.mem_of_getElem? (i := 47) (by decide +kernel), List.mem_of_getElem? (i := 452) (by decide +kernel), List.mem_of_getElem? (i := 453) (by decide +kernel)⟩
theorem lw_p29 : lw_okq (⟨"KnotNames$Row", "appendAllTight", "(LKnotNames$Row;)V"⟩, 2) := ⟨⟨by decide +kernel, by decide +kernel⟩, List.mem_of_getElem? (i := 47) (by decide +kernel), List.mem_of_getElem? (i := 456) (by decide +kernel), List.mem_of_getElem? (i := 457) (by decide +kernel)⟩
theorem lw_p30 : lw_okq (⟨"KnotNames$Past", "takeBack", "(LKnotNames$Camp;)V"⟩, 3) := ⟨⟨by decide +kernel, by decide +kernel⟩, List.mem_of_getElem? (i := 82) (by decide +kernel), List.mem_of_getElem? (i := 480) (by decide +kernel), List.mem_of_getElem? (i := 481) (by decide +kernel)⟩
theorem lw_p31 : lw_okq (⟨"KnotNames$Row", "isRingOf", "(LKnotNames$Row;)Z"⟩, 2) := ⟨⟨by decide +kernel, by decide +kernel⟩, List.mem_of_getElem? (i := 47) (by decide +kernel), List.mem_of_getElem? (i := 493) (by decide +kernel), List.mem_of_getElem? (i := 494) (by decide +kernel)⟩
def lw_privs_2 : List (MethodName × Nat) := [(⟨"KnotNames$Camp", "named", "()I"⟩, 3), (⟨"KnotNames$Camp", "unlikeNames", "()I"⟩, 3), (⟨"KnotNames$Camp", "calledLike", "(I)I"⟩, 3), (⟨"KnotNames$Row", "isLike", "(LKnotNames$Row;)Z"⟩, 2), (⟨"KnotNames$Row", "commonStart", "(LKnotNames$Row;)I"⟩, 2), (⟨"KnotNames$Camp", "turns", "()I"⟩, 3), (⟨"KnotNames$Row", "takesTight", "(I)Z"⟩, 2), (⟨"KnotNames$Past", "remember", "(LKnotNames$Camp;)V"⟩, 3), (⟨"KnotNames$Camp", "become", "(LKnotNames$Camp;)V"⟩, 3), (⟨"KnotNames$Row", "become", "(LKnotNames$Row;)V"⟩, 2), (⟨"KnotNames$Row", "last", "()I"⟩, 2), (⟨"KnotNames$Row", "becomeJoined", "(LKnotNames$Row;LKnotNames$Row;)V"⟩, 2), (⟨"KnotNames$Row", "becomeTight", "(LKnotNames$Row;)V"⟩, 2), (⟨"KnotNames$Row", "appendAllTight", "(LKnotNames$Row;)V"⟩, 2), (⟨"KnotNames$Past", "takeBack", "(LKnotNames$Camp;)V"⟩, 3), (⟨"KnotNames$Row", "isRingOf", "(LKnotNames$Row;)Z"⟩, 2)]
theorem lw_r2 : ∀ q ∈ lw_privs_2, lw_okq q := List.forall_mem_cons.mpr ⟨lw_p16, List.forall_mem_cons.mpr ⟨lw_p17, List.forall_mem_cons.mpr ⟨lw_p18, List.forall_mem_cons.mpr ⟨lw_p19, List.forall_mem_cons.mpr ⟨lw_p20, List.forall_mem_cons.mpr ⟨lw_p21, List.forall_mem_cons.mpr ⟨lw_p22, List.forall_mem_cons.mpr ⟨lw_p23, List.forall_mem_cons.mpr ⟨lw_p24, List.forall_mem_cons.mpr ⟨lw_p25, List.forall_mem_cons.mpr ⟨lw_p26, List.forall_mem_cons.mpr ⟨lw_p27, List.forall_mem_cons.mpr ⟨lw_p28, List.forall_mem_cons.mpr ⟨lw_p29, List.forall_mem_cons.mpr ⟨lw_p30, List.forall_mem_cons.mpr ⟨lw_p31, fun _ h => absurd h List.not_mem_nil⟩⟩⟩⟩⟩⟩⟩⟩⟩⟩⟩⟩⟩⟩⟩⟩
theorem lw_p32 : lw_okq (⟨"KnotNames$Row", "lostByBending", "()I"⟩, 2) := ⟨⟨by decide +kernel, by decide +kernel⟩, List.mem_of_getElem? (i := 47) (by decide +kernel), List.mem_of_getElem? (i := 497) (by decide +kernel), List.mem_of_getElem? (i := 498) (by decide +kernel)⟩
theorem lw_p33 : lw_okq (⟨"KnotNames$Row", "isRingBegunAt", "(ILKnotNames$Row;III)Z"⟩, 2) := ⟨⟨by decide +kernel, by decide +kernel⟩, List.mem_of_getElem? (i := 47) (by decide +kernel), List.mem_of_getElem? (i := 501) (by decide +kernel), List.mem_of_getElem? (i := 502) (by decide +kernel)⟩
theorem lw_p34 : lw_okq (⟨"KnotNames$Row", "shortestRepeated", "()I"⟩, 2) := ⟨⟨by decide +kernel, by decide +kernel⟩, List.mem_of_getElem? (i := 47) (by decide +kernel), List.mem_of_getElem? (i := 514) (by decide +kernel), List.mem_of_getElem? (i := 515) (by decide +kernel)⟩
theorem lw_p35 : lw_okq (⟨"KnotNames$Row", "repeats", "(I)Z"⟩, 2) := ⟨⟨by decide +kernel, by decide +kernel⟩, List.mem_of_getElem? (i := 47) (by decide +kernel), List.mem_of_getElem? (i := 518) (by decide +kernel), List.mem_of_getElem? (i := 519) (by decide +kernel)⟩
theorem lw_p36 : lw_okq (⟨"KnotNames$Row", "compareWith", "(LKnotNames$Row;)I"⟩, 2) := ⟨⟨by decide +kernel, by decide +kernel⟩, List.mem_of_getElem? (i := 47) (by decide +kernel), List.mem_of_getElem? (i := 526) (by decide +kernel), List.mem_of_getElem? (i := 527) (by decide +kernel)⟩
theorem lw_p37 : lw_okq (⟨"KnotNames$Row", "differences", "(LKnotNames$Row;)I"⟩, 2) := ⟨⟨by decide +kernel, by decide +kernel⟩, List.mem_of_getElem? (i := 47) (by decide +kernel), List.mem_of_getElem? (i := 557) (by decide +kernel), List.mem_of_getElem? (i := 558) (by decide +kernel)⟩
theorem lw_p38 : lw_okq (⟨"KnotNames$NewNames", "find", "(LKnotNames$Camp;II)V"⟩, 3) := ⟨⟨by decide +kernel, by decide +kernel⟩, List.mem_of_getElem? (i := 136) (by decide +kernel), List.mem_of_getElem? (i := 565) (by decide +kernel), List.mem_of_getElem? (i := 566) (by decide +kernel)⟩
theorem lw_p39 : lw_okq (⟨"KnotNames$NewNames", "spell", "(II)V"⟩, 3) := ⟨⟨by decide +kernel, by decide +kernel⟩, List.mem_of_getElem? (i := 136) (by decide +kernel), List.mem_of_getElem? (i := 570) (by decide +kernel), List.mem_of_getElem? (i := 571) (by decide +kernel)⟩
theorem lw_p40 : lw_okq (⟨"KnotNames$Row", "isTight", "()Z"⟩, 2) := ⟨⟨by decide +kernel, by decide +kernel⟩, List.mem_of_getElem? (i := 47) (by decide +kernel), List.mem_of_getElem? (i := 577) (by decide +kernel), List.mem_of_getElem? (i := 578) (by decide +kernel)⟩
theorem lw_p41 : lw_okq (⟨"KnotNames$NewNames", "isFar", "(LKnotNames$Camp;I)Z"⟩, 3) := ⟨⟨by decide +kernel, by decide +kernel⟩, List.mem_of_getElem? (i := 136) (by decide +kernel), List.mem_of_getElem? (i := 581) (by decide +kernel), List.mem_of_getElem? (i := 582) (by decide +kernel)⟩
theorem lw_p42 : lw_okq (⟨"KnotNames", "mostPairs", "(LKnotNames$Row;)I"⟩, 12) := ⟨⟨by decide +kernel, by decide +kernel⟩, List.mem_of_getElem? (i := 17) (by decide +kernel), List.mem_of_getElem? (i := 593) (by decide +kernel), List.mem_of_getElem? (i := 594) (by decide +kernel)⟩
theorem lw_p43 : lw_okq (⟨"KnotNames", "mostPairsWithin", "(LKnotNames$Row;II)I"⟩, 12) := ⟨⟨by decide +kernel, by decide +kernel⟩, List.mem_of_getElem? (i := 17) (by decide +kernel), List.mem_of_getElem? (i := 598) (by decide +kernel), List.mem_of_getElem? (i := 599) (by decide +kernel)⟩
theorem lw_p44 : lw_okq (⟨"KnotNames$Lives", "readBack", "(LKnotNames$Camp;)V"⟩, 7) := ⟨⟨by decide +kernel, by decide +kernel⟩, List.mem_of_getElem? (i := 102) (by decide +kernel), List.mem_of_getElem? (i := 608) (by decide +kernel), List.mem_of_getElem? (i := 609) (by decide +kernel)⟩
theorem lw_p45 : lw_okq (⟨"KnotNames$Lives", "note", "(I)V"⟩, 7) := ⟨⟨by decide +kernel, by decide +kernel⟩, List.mem_of_getElem? (i := 102) (by decide +kernel), List.mem_of_getElem? (i := 620) (by decide +kernel), List.mem_of_getElem? (i := 621) (by decide +kernel)⟩
theorem lw_p46 : lw_okq (⟨"KnotNames$Row", "appendAllUndoing", "(LKnotNames$Row;)V"⟩, 2) := ⟨⟨by decide +kernel, by decide +kernel⟩, List.mem_of_getElem? (i := 47) (by decide +kernel), List.mem_of_getElem? (i := 624) (by decide +kernel), List.mem_of_getElem? (i := 625) (by decide +kernel)⟩
theorem lw_p47 : lw_okq (⟨"KnotNames$Lives", "inMost", "()I"⟩, 7) := ⟨⟨by decide +kernel, by decide +kernel⟩, List.mem_of_getElem? (i := 102) (by decide +kernel), List.mem_of_getElem? (i := 632) (by decide +kernel), List.mem_of_getElem? (i := 633) (by decide +kernel)⟩
def lw_privs_3 : List (MethodName × Nat) := [(⟨"KnotNames$Row", "lostByBending", "()I"⟩, 2), (⟨"KnotNames$Row", "isRingBegunAt", "(ILKnotNames$Row;III)Z"⟩, 2), (⟨"KnotNames$Row", "shortestRepeated", "()I"⟩, 2), (⟨"KnotNames$Row", "repeats", "(I)Z"⟩, 2), (⟨"KnotNames$Row", "compareWith", "(LKnotNames$Row;)I"⟩, 2), (⟨"KnotNames$Row", "differences", "(LKnotNames$Row;)I"⟩, 2), (⟨"KnotNames$NewNames", "find", "(LKnotNames$Camp;II)V"⟩, 3), (⟨"KnotNames$NewNames", "spell", "(II)V"⟩, 3), (⟨"KnotNames$Row", "isTight", "()Z"⟩, 2), (⟨"KnotNames$NewNames", "isFar", "(LKnotNames$Camp;I)Z"⟩, 3), (⟨"KnotNames", "mostPairs", "(LKnotNames$Row;)I"⟩, 12), (⟨"KnotNames", "mostPairsWithin", "(LKnotNames$Row;II)I"⟩, 12), (⟨"KnotNames$Lives", "readBack", "(LKnotNames$Camp;)V"⟩, 7), (⟨"KnotNames$Lives", "note", "(I)V"⟩, 7), (⟨"KnotNames$Row", "appendAllUndoing", "(LKnotNames$Row;)V"⟩, 2), (⟨"KnotNames$Lives", "inMost", "()I"⟩, 7)]
theorem lw_r3 : ∀ q ∈ lw_privs_3, lw_okq q := List.forall_mem_cons.mpr ⟨lw_p32, List.forall_mem_cons.mpr ⟨lw_p33, List.forall_mem_cons.mpr ⟨lw_p34, List.forall_mem_cons.mpr ⟨lw_p35, List.forall_mem_cons.mpr ⟨lw_p36, List.forall_mem_cons.mpr ⟨lw_p37, List.forall_mem_cons.mpr ⟨lw_p38, List.forall_mem_cons.mpr ⟨lw_p39, List.forall_mem_cons.mpr ⟨lw_p40, List.forall_mem_cons.mpr ⟨lw_p41, List.forall_mem_cons.mpr ⟨lw_p42, List.forall_mem_cons.mpr ⟨lw_p43, List.forall_mem_cons.mpr ⟨lw_p44, List.forall_mem_cons.mpr ⟨lw_p45, List.forall_mem_cons.mpr ⟨lw_p46, List.forall_mem_cons.mpr ⟨lw_p47, fun _ h => absurd h List.not_mem_nil⟩⟩⟩⟩⟩⟩⟩⟩⟩⟩⟩⟩⟩⟩⟩⟩
theorem lw_p48 : lw_okq (⟨"KnotNames", "asHerder", "(I)I"⟩, 12) := ⟨⟨by decide +kernel, by decide +kernel⟩, List.mem_of_getElem? (i := 17) (by decide +kernel), List.mem_of_getElem? (i := 658) (by decide +kernel), List.mem_of_getElem? (i := 659) (by decide +kernel)⟩
theorem lw_p49 : lw_okq (⟨"KnotNames", "asChief", "(I)I"⟩, 12) := ⟨⟨by decide +kernel, by decide +kernel⟩, List.mem_of_getElem? (i := 17) (by decide +kernel), List.mem_of_getElem? (i := 662) (by decide +kernel), List.mem_of_getElem? (i := 663) (by decide +kernel)⟩
theorem lw_p50 : lw_okq (⟨"KnotNames", "asLiar", "(I)I"⟩, 12) := ⟨⟨by decide +kernel, by decide +kernel⟩, List.mem_of_getElem? (i := 17) (by decide +kernel), List.mem_of_getElem? (i := 667) (by decide +kernel), List.mem_of_getElem? (i := 668) (by decide +kernel)⟩
theorem lw_p51 : lw_okq (⟨"KnotNames", "asFist", "(I)I"⟩, 12) := ⟨⟨by decide +kernel, by decide +kernel⟩, List.mem_of_getElem? (i := 17) (by decide +kernel), List.mem_of_getElem? (i := 672) (by decide +kernel), List.mem_of_getElem? (i := 673) (by decide +kernel)⟩
theorem lw_p52 : lw_okq (⟨"KnotNames", "asThief", "(I)I"⟩, 12) := ⟨⟨by decide +kernel, by decide +kernel⟩, List.mem_of_getElem? (i := 17) (by decide +kernel), List.mem_of_getElem? (i := 677) (by decide +kernel), List.mem_of_getElem? (i := 678) (by decide +kernel)⟩
theorem lw_p53 : lw_okq (⟨"KnotNames", "asWidow", "(I)I"⟩, 12) := ⟨⟨by decide +kernel, by decide +kernel⟩, List.mem_of_getElem? (i := 17) (by decide +kernel), List.mem_of_getElem? (i := 682) (by decide +kernel), List.mem_of_getElem? (i := 683) (by decide +kernel)⟩
theorem lw_p54 : lw_okq (⟨"KnotNamesModel", "ahead", "()I"⟩, 20) := ⟨⟨by decide +kernel, by decide +kernel⟩, List.mem_of_getElem? (i := 704) (by decide +kernel), List.mem_of_getElem? (i := 787) (by decide +kernel), List.mem_of_getElem? (i := 788) (by decide +kernel)⟩
theorem lw_p55 : lw_okq (⟨"KnotNamesModel", "takesHerder", "(I)Z"⟩, 20) := ⟨⟨by decide +kernel, by decide +kernel⟩, List.mem_of_getElem? (i := 704) (by decide +kernel), List.mem_of_getElem? (i := 791) (by decide +kernel), List.mem_of_getElem? (i := 792) (by decide +kernel)⟩
theorem lw_p56 : lw_okq (⟨"KnotNamesModel", "tie", "(I)V"⟩, 20) := ⟨⟨by decide +kernel, by decide +kernel⟩, List.mem_of_getElem? (i := 704) (by decide +kernel), List.mem_of_getElem? (i := 798) (by decide +kernel), List.mem_of_getElem? (i := 799) (by decide +kernel)⟩
theorem lw_p57 : lw_okq (⟨"KnotNamesModel", "isHerder", "(I)Z"⟩, 20) := ⟨⟨by decide +kernel, by decide +kernel⟩, List.mem_of_getElem? (i := 704) (by decide +kernel), List.mem_of_getElem? (i := 809) (by decide +kernel), List.mem_of_getElem? (i := 810) (by decide +kernel)⟩
theorem lw_p58 : lw_okq (⟨"KnotNamesModel", "namesThere", "()I"⟩, 20) := ⟨⟨by decide +kernel, by decide +kernel⟩, List.mem_of_getElem? (i := 704) (by decide +kernel), List.mem_of_getElem? (i := 822) (by decide +kernel), List.mem_of_getElem? (i := 823) (by decide +kernel)⟩
theorem lw_p59 : lw_okq (⟨"KnotNamesModel", "alikeOf", "(I)I"⟩, 20) := ⟨⟨by decide +kernel, by decide +kernel⟩, List.mem_of_getElem? (i := 704) (by decide +kernel), List.mem_of_getElem? (i := 826) (by decide +kernel), List.mem_of_getElem? (i := 827) (by decide +kernel)⟩
theorem lw_p60 : lw_okq (⟨"KnotNamesModel", "nearTo", "(II)I"⟩, 20) := ⟨⟨by decide +kernel, by decide +kernel⟩, List.mem_of_getElem? (i := 704) (by decide +kernel), List.mem_of_getElem? (i := 830) (by decide +kernel), List.mem_of_getElem? (i := 831) (by decide +kernel)⟩
theorem lw_p61 : lw_okq (⟨"KnotNamesModel", "unlike", "(II)I"⟩, 20) := ⟨⟨by decide +kernel, by decide +kernel⟩, List.mem_of_getElem? (i := 704) (by decide +kernel), List.mem_of_getElem? (i := 834) (by decide +kernel), List.mem_of_getElem? (i := 835) (by decide +kernel)⟩
theorem lw_p62 : lw_okq (⟨"KnotNamesModel", "turnAt", "(II)I"⟩, 20) := ⟨⟨by decide +kernel, by decide +kernel⟩, List.mem_of_getElem? (i := 704) (by decide +kernel), List.mem_of_getElem? (i := 839) (by decide +kernel), List.mem_of_getElem? (i := 840) (by decide +kernel)⟩
theorem lw_p63 : lw_okq (⟨"KnotNamesModel", "turnsOfAll", "()I"⟩, 20) := ⟨⟨by decide +kernel, by decide +kernel⟩, List.mem_of_getElem? (i := 704) (by decide +kernel), List.mem_of_getElem? (i := 843) (by decide +kernel), List.mem_of_getElem? (i := 844) (by decide +kernel)⟩
def lw_privs_4 : List (MethodName × Nat) := [(⟨"KnotNames", "asHerder", "(I)I"⟩, 12), (⟨"KnotNames", "asChief", "(I)I"⟩, 12), (⟨"KnotNames", "asLiar", "(I)I"⟩, 12), (⟨"KnotNames", "asFist", "(I)I"⟩, 12), (⟨"KnotNames", "asThief", "(I)I"⟩, 12), (⟨"KnotNames", "asWidow", "(I)I"⟩, 12), (⟨"KnotNamesModel", "ahead", "()I"⟩, 20), (⟨"KnotNamesModel", "takesHerder", "(I)Z"⟩, 20), (⟨"KnotNamesModel", "tie", "(I)V"⟩, 20), (⟨"KnotNamesModel", "isHerder", "(I)Z"⟩, 20), (⟨"KnotNamesModel", "namesThere", "()I"⟩, 20), (⟨"KnotNamesModel", "alikeOf", "(I)I"⟩, 20), (⟨"KnotNamesModel", "nearTo", "(II)I"⟩, 20), (⟨"KnotNamesModel", "unlike", "(II)I"⟩, 20), (⟨"KnotNamesModel", "turnAt", "(II)I"⟩, 20), (⟨"KnotNamesModel", "turnsOfAll", "()I"⟩, 20)]
theorem lw_r4 : ∀ q ∈ lw_privs_4, lw_okq q := List.forall_mem_cons.mpr ⟨lw_p48, List.forall_mem_cons.mpr ⟨lw_p49, List.forall_mem_cons.mpr ⟨lw_p50, List.forall_mem_cons.mpr ⟨lw_p51, List.forall_mem_cons.mpr ⟨lw_p52, List.forall_mem_cons.mpr ⟨lw_p53, List.forall_mem_cons.mpr ⟨lw_p54, List.forall_mem_cons.mpr ⟨lw_p55, List.forall_mem_cons.mpr ⟨lw_p56, List.forall_mem_cons.mpr ⟨lw_p57, List.forall_mem_cons.mpr ⟨lw_p58, List.forall_mem_cons.mpr ⟨lw_p59, List.forall_mem_cons.mpr ⟨lw_p60, List.forall_mem_cons.mpr ⟨lw_p61, List.forall_mem_cons.mpr ⟨lw_p62, List.forall_mem_cons.mpr ⟨lw_p63, fun _ h => absurd h List.not_mem_nil⟩⟩⟩⟩⟩⟩⟩⟩⟩⟩⟩⟩⟩⟩⟩⟩
theorem lw_p64 : lw_okq (⟨"KnotNamesModel", "tieName", "(I)V"⟩, 20) := ⟨⟨by decide +kernel, by decide +kernel⟩, List.mem_of_getElem? (i := 704) (by decide +kernel), List.mem_of_getElem? (i := 855) (by decide +kernel), List.mem_of_getElem? (i := 856) (by decide +kernel)⟩
theorem lw_p65 : lw_okq (⟨"KnotNamesModel", "tieRow", "(II)V"⟩, 20) := ⟨⟨by decide +kernel, by decide +kernel⟩, List.mem_of_getElem? (i := 704) (by decide +kernel), List.mem_of_getElem? (i := 859) (by decide +kernel), List.mem_of_getElem? (i := 860) (by decide +kernel)⟩
theorem lw_p66 : lw_okq (⟨"KnotNamesModel", "remember", "()V"⟩, 20) := ⟨⟨by decide +kernel, by decide +kernel⟩, List.mem_of_getElem? (i := 704) (by decide +kernel), List.mem_of_getElem? (i := 863) (by decide +kernel), List.mem_of_getElem? (i := 864) (by decide +kernel)⟩
theorem lw_p67 : lw_okq (⟨"KnotNamesModel", "names", "(I)V"⟩, 20) := ⟨⟨by decide +kernel, by decide +kernel⟩, List.mem_of_getElem? (i := 704) (by decide +kernel), List.mem_of_getElem? (i := 867) (by decide +kernel), List.mem_of_getElem? (i := 868) (by decide +kernel)⟩
theorem lw_p68 : lw_okq (⟨"KnotNamesModel", "isRing", "(II)Z"⟩, 20) := ⟨⟨by decide +kernel, by decide +kernel⟩, List.mem_of_getElem? (i := 704) (by decide +kernel), List.mem_of_getElem? (i := 903) (by decide +kernel), List.mem_of_getElem? (i := 904) (by decide +kernel)⟩
theorem lw_p69 : lw_okq (⟨"KnotNamesModel", "ends", "(I)I"⟩, 20) := ⟨⟨by decide +kernel, by decide +kernel⟩, List.mem_of_getElem? (i := 704) (by decide +kernel), List.mem_of_getElem? (i := 907) (by decide +kernel), List.mem_of_getElem? (i := 908) (by decide +kernel)⟩
theorem lw_p70 : lw_okq (⟨"KnotNamesModel", "rootOf", "(I)I"⟩, 20) := ⟨⟨by decide +kernel, by decide +kernel⟩, List.mem_of_getElem? (i := 704) (by decide +kernel), List.mem_of_getElem? (i := 919) (by decide +kernel), List.mem_of_getElem? (i := 920) (by decide +kernel)⟩
theorem lw_p71 : lw_okq (⟨"KnotNamesModel", "isAhead", "(II)Z"⟩, 20) := ⟨⟨by decide +kernel, by decide +kernel⟩, List.mem_of_getElem? (i := 704) (by decide +kernel), List.mem_of_getElem? (i := 927) (by decide +kernel), List.mem_of_getElem? (i := 928) (by decide +kernel)⟩
theorem lw_p72 : lw_okq (⟨"KnotNamesModel", "isNew", "(III)Z"⟩, 20) := ⟨⟨by decide +kernel, by decide +kernel⟩, List.mem_of_getElem? (i := 704) (by decide +kernel), List.mem_of_getElem? (i := 952) (by decide +kernel), List.mem_of_getElem? (i := 953) (by decide +kernel)⟩
theorem lw_p73 : lw_okq (⟨"KnotNamesModel", "tieContract", "()V"⟩, 20) := ⟨⟨by decide +kernel, by decide +kernel⟩, List.mem_of_getElem? (i := 704) (by decide +kernel), List.mem_of_getElem? (i := 961) (by decide +kernel), List.mem_of_getElem? (i := 962) (by decide +kernel)⟩
theorem lw_p74 : lw_okq (⟨"KnotNamesModel", "mend", "()I"⟩, 20) := ⟨⟨by decide +kernel, by decide +kernel⟩, List.mem_of_getElem? (i := 704) (by decide +kernel), List.mem_of_getElem? (i := 965) (by decide +kernel), List.mem_of_getElem? (i := 966) (by decide +kernel)⟩
theorem lw_p75 : lw_okq (⟨"KnotNamesModel", "layContract", "()V"⟩, 20) := ⟨⟨by decide +kernel, by decide +kernel⟩, List.mem_of_getElem? (i := 704) (by decide +kernel), List.mem_of_getElem? (i := 973) (by decide +kernel), List.mem_of_getElem? (i := 974) (by decide +kernel)⟩
theorem lw_p76 : lw_okq (⟨"KnotNamesModel", "isLife", "(II)Z"⟩, 20) := ⟨⟨by decide +kernel, by decide +kernel⟩, List.mem_of_getElem? (i := 704) (by decide +kernel), List.mem_of_getElem? (i := 977) (by decide +kernel), List.mem_of_getElem? (i := 978) (by decide +kernel)⟩
def lw_privs_5 : List (MethodName × Nat) := [(⟨"KnotNamesModel", "tieName", "(I)V"⟩, 20), (⟨"KnotNamesModel", "tieRow", "(II)V"⟩, 20), (⟨"KnotNamesModel", "remember", "()V"⟩, 20), (⟨"KnotNamesModel", "names", "(I)V"⟩, 20), (⟨"KnotNamesModel", "isRing", "(II)Z"⟩, 20), (⟨"KnotNamesModel", "ends", "(I)I"⟩, 20), (⟨"KnotNamesModel", "rootOf", "(I)I"⟩, 20), (⟨"KnotNamesModel", "isAhead", "(II)Z"⟩, 20), (⟨"KnotNamesModel", "isNew", "(III)Z"⟩, 20), (⟨"KnotNamesModel", "tieContract", "()V"⟩, 20), (⟨"KnotNamesModel", "mend", "()I"⟩, 20), (⟨"KnotNamesModel", "layContract", "()V"⟩, 20), (⟨"KnotNamesModel", "isLife", "(II)Z"⟩, 20)]
theorem lw_r5 : ∀ q ∈ lw_privs_5, lw_okq q := List.forall_mem_cons.mpr ⟨lw_p64, List.forall_mem_cons.mpr ⟨lw_p65, List.forall_mem_cons.mpr ⟨lw_p66, List.forall_mem_cons.mpr ⟨lw_p67, List.forall_mem_cons.mpr ⟨lw_p68, List.forall_mem_cons.mpr ⟨lw_p69, List.forall_mem_cons.mpr ⟨lw_p70, List.forall_mem_cons.mpr ⟨lw_p71, List.forall_mem_cons.mpr ⟨lw_p72, List.forall_mem_cons.mpr ⟨lw_p73, List.forall_mem_cons.mpr ⟨lw_p74, List.forall_mem_cons.mpr ⟨lw_p75, List.forall_mem_cons.mpr ⟨lw_p76, fun _ h => absurd h List.not_mem_nil⟩⟩⟩⟩⟩⟩⟩⟩⟩⟩⟩⟩⟩
def lw_privs : List (MethodName × Nat) := lw_privs_1 ++ (lw_privs_2 ++ (lw_privs_3 ++ (lw_privs_4 ++ (lw_privs_5))))
def lw_tbl : List Cond := k2_sels lw_privs ++ tables_1
theorem lw_privs_ok : ∀ q ∈ lw_privs, lw_okq q := by
  show ∀ q ∈ lw_privs_1 ++ (lw_privs_2 ++ (lw_privs_3 ++ (lw_privs_4 ++ (lw_privs_5)))), lw_okq q
  exact List.forall_mem_append.mpr ⟨lw_r1, List.forall_mem_append.mpr ⟨lw_r2, List.forall_mem_append.mpr ⟨lw_r3, List.forall_mem_append.mpr ⟨lw_r4, lw_r5⟩⟩⟩⟩
def RX0 : String := "KnotNames$Camp"
def TX0 : u_T := fun k => match k with
  | 0 => ("KnotNames$Camp", "names", "[LKnotNames$Row;", true)
  | 1 => ("KnotNames$Camp", "contract", "LKnotNames$Row;", true)
  | _ => ("KnotNames$Camp", "herders", "I", false)
def tyX0 : Nat → FieldType := fun k => match k with
  | 0 => .array (.object "KnotNames$Row")
  | 1 => .object "KnotNames$Row"
  | _ => .int
abbrev wsX00 : List Cond := u_ws RX0 TX0 3
theorem nmX0 : ∀ a, a < 3 → ∀ b, b < 3 → a ≠ b → (TX0 a).2.1 ≠ (TX0 b).2.1 := by decide +kernel
theorem tyX0_ok : ∀ k, k < 3 → parseFieldDescriptor (TX0 k).2.2.1 = some (tyX0 k) := by decide +kernel
def RX1 : String := "KnotNames$Lives"
def TX1 : u_T := fun k => match k with
  | 0 => ("KnotNames$Lives", "goal", "LKnotNames$Row;", true)
  | 1 => ("KnotNames$Lives", "joined", "LKnotNames$Row;", true)
  | 2 => ("KnotNames$Lives", "chosen", "[I", true)
  | 3 => ("KnotNames$Lives", "first", "[I", true)
  | 4 => ("KnotNames$Lives", "rowsOf", "[I", true)
  | 5 => ("KnotNames$Lives", "firstLength", "I", false)
  | _ => ("KnotNames$Lives", "howMany", "I", false)
def tyX1 : Nat → FieldType := fun k => match k with
  | 0 => .object "KnotNames$Row"
  | 1 => .object "KnotNames$Row"
  | 2 => .array .int
  | 3 => .array .int
  | 4 => .array .int
  | 5 => .int
  | _ => .int
abbrev wsX10 : List Cond := u_ws RX1 TX1 7
theorem nmX1 : ∀ a, a < 7 → ∀ b, b < 7 → a ≠ b → (TX1 a).2.1 ≠ (TX1 b).2.1 := by decide +kernel
theorem tyX1_ok : ∀ k, k < 7 → parseFieldDescriptor (TX1 k).2.2.1 = some (tyX1 k) := by decide +kernel
def RX2 : String := "KnotNames$NewNames"
def TX2 : u_T := fun k => match k with
  | 0 => ("KnotNames$NewNames", "first", "LKnotNames$Row;", true)
  | 1 => ("KnotNames$NewNames", "tried", "LKnotNames$Row;", true)
  | _ => ("KnotNames$NewNames", "howMany", "I", false)
def tyX2 : Nat → FieldType := fun k => match k with
  | 0 => .object "KnotNames$Row"
  | 1 => .object "KnotNames$Row"
  | _ => .int
abbrev wsX20 : List Cond := u_ws RX2 TX2 3
theorem nmX2 : ∀ a, a < 3 → ∀ b, b < 3 → a ≠ b → (TX2 a).2.1 ≠ (TX2 b).2.1 := by decide +kernel
theorem tyX2_ok : ∀ k, k < 3 → parseFieldDescriptor (TX2 k).2.2.1 = some (tyX2 k) := by decide +kernel
def RX3 : String := "KnotNames$Past"
def TX3 : u_T := fun k => match k with
  | 0 => ("KnotNames$Past", "camps", "[LKnotNames$Camp;", true)
  | 1 => ("KnotNames$Past", "newest", "I", false)
  | _ => ("KnotNames$Past", "known", "I", false)
def tyX3 : Nat → FieldType := fun k => match k with
  | 0 => .array (.object "KnotNames$Camp")
  | 1 => .int
  | _ => .int
abbrev wsX30 : List Cond := u_ws RX3 TX3 3
theorem nmX3 : ∀ a, a < 3 → ∀ b, b < 3 → a ≠ b → (TX3 a).2.1 ≠ (TX3 b).2.1 := by decide +kernel
theorem tyX3_ok : ∀ k, k < 3 → parseFieldDescriptor (TX3 k).2.2.1 = some (tyX3 k) := by decide +kernel
def RX4 : String := "KnotNames$Row"
def TX4 : u_T := fun k => match k with
  | 0 => ("KnotNames$Row", "turns", "[I", true)
  | _ => ("KnotNames$Row", "length", "I", false)
def tyX4 : Nat → FieldType := fun k => match k with
  | 0 => .array .int
  | _ => .int
abbrev wsX40 : List Cond := u_ws RX4 TX4 2
theorem nmX4 : ∀ a, a < 2 → ∀ b, b < 2 → a ≠ b → (TX4 a).2.1 ≠ (TX4 b).2.1 := by decide +kernel
theorem tyX4_ok : ∀ k, k < 2 → parseFieldDescriptor (TX4 k).2.2.1 = some (tyX4 k) := by decide +kernel
def RX5 : String := "KnotNames$Text"
def TX5 : u_T := fun k => match k with
  | 0 => ("KnotNames$Text", "letters", "[C", true)
  | _ => ("KnotNames$Text", "length", "I", false)
def tyX5 : Nat → FieldType := fun k => match k with
  | 0 => .array .char
  | _ => .int
abbrev wsX50 : List Cond := u_ws RX5 TX5 2
theorem nmX5 : ∀ a, a < 2 → ∀ b, b < 2 → a ≠ b → (TX5 a).2.1 ≠ (TX5 b).2.1 := by decide +kernel
theorem tyX5_ok : ∀ k, k < 2 → parseFieldDescriptor (TX5 k).2.2.1 = some (tyX5 k) := by decide +kernel
def RX6 : String := "KnotNames"
def TX6 : u_T := fun k => match k with
  | 0 => ("KnotNames", "text", "LKnotNames$Text;", true)
  | 1 => ("KnotNames", "current", "LKnotNames$Camp;", true)
  | 2 => ("KnotNames", "past", "LKnotNames$Past;", true)
  | 3 => ("KnotNames", "images", "[LKnotNames$Camp;", true)
  | 4 => ("KnotNames", "kept", "[Z", true)
  | 5 => ("KnotNames", "found", "LKnotNames$Lives;", true)
  | 6 => ("KnotNames", "free", "LKnotNames$NewNames;", true)
  | 7 => ("KnotNames", "firstBent", "LKnotNames$Row;", true)
  | 8 => ("KnotNames", "secondBent", "LKnotNames$Row;", true)
  | 9 => ("KnotNames", "tight", "LKnotNames$Row;", true)
  | 10 => ("KnotNames", "pairs", "[[I", true)
  | _ => ("KnotNames", "asked", "J", false)
def tyX6 : Nat → FieldType := fun k => match k with
  | 0 => .object "KnotNames$Text"
  | 1 => .object "KnotNames$Camp"
  | 2 => .object "KnotNames$Past"
  | 3 => .array (.object "KnotNames$Camp")
  | 4 => .array .boolean
  | 5 => .object "KnotNames$Lives"
  | 6 => .object "KnotNames$NewNames"
  | 7 => .object "KnotNames$Row"
  | 8 => .object "KnotNames$Row"
  | 9 => .object "KnotNames$Row"
  | 10 => .array (.array .int)
  | _ => .long
abbrev wsX60 : List Cond := u_ws RX6 TX6 12
theorem nmX6 : ∀ a, a < 12 → ∀ b, b < 12 → a ≠ b → (TX6 a).2.1 ≠ (TX6 b).2.1 := by decide +kernel
theorem tyX6_ok : ∀ k, k < 12 → parseFieldDescriptor (TX6 k).2.2.1 = some (tyX6 k) := by decide +kernel
def RX7 : String := "KnotNamesModel"
def TX7 : u_T := fun k => match k with
  | 0 => ("KnotNamesModel", "herders", "I", false)
  | 1 => ("KnotNamesModel", "now", "[I", true)
  | 2 => ("KnotNamesModel", "past", "[I", true)
  | 3 => ("KnotNamesModel", "undos", "I", false)
  | 4 => ("KnotNamesModel", "images", "[I", true)
  | 5 => ("KnotNamesModel", "kept", "[Z", true)
  | 6 => ("KnotNamesModel", "text", "[I", true)
  | 7 => ("KnotNamesModel", "size", "I", false)
  | 8 => ("KnotNamesModel", "trace", "J", false)
  | 9 => ("KnotNamesModel", "cord", "[I", true)
  | 10 => ("KnotNamesModel", "tied", "I", false)
  | 11 => ("KnotNamesModel", "read", "[I", true)
  | 12 => ("KnotNamesModel", "at", "I", false)
  | 13 => ("KnotNamesModel", "other", "[I", true)
  | 14 => ("KnotNamesModel", "told", "[I", true)
  | 15 => ("KnotNamesModel", "pairs", "[I", true)
  | 16 => ("KnotNamesModel", "row", "[I", true)
  | 17 => ("KnotNamesModel", "life", "[I", true)
  | 18 => ("KnotNamesModel", "lifeLong", "I", false)
  | _ => ("KnotNamesModel", "counts", "[I", true)
def tyX7 : Nat → FieldType := fun k => match k with
  | 0 => .int
  | 1 => .array .int
  | 2 => .array .int
  | 3 => .int
  | 4 => .array .int
  | 5 => .array .boolean
  | 6 => .array .int
  | 7 => .int
  | 8 => .long
  | 9 => .array .int
  | 10 => .int
  | 11 => .array .int
  | 12 => .int
  | 13 => .array .int
  | 14 => .array .int
  | 15 => .array .int
  | 16 => .array .int
  | 17 => .array .int
  | 18 => .int
  | _ => .array .int
abbrev wsX70 : List Cond := u_ws RX7 TX7 20
theorem nmX7 : ∀ a, a < 20 → ∀ b, b < 20 → a ≠ b → (TX7 a).2.1 ≠ (TX7 b).2.1 := by decide +kernel
theorem tyX7_ok : ∀ k, k < 20 → parseFieldDescriptor (TX7 k).2.2.1 = some (tyX7 k) := by decide +kernel
def RL : String := "KnotNamesLaw"
def RJ6 : String := "java/lang/Integer"
def RJ9 : String := "java/lang/Math"
def RJ0 : String := "java/lang/String"
def RJ1 : String := "java/lang/StringLatin1"
abbrev cX0_init : ByteArray := prog_2_method_1_code
def yX0_init : MethodName := ⟨"KnotNames$Camp", "<init>", "()V"⟩
abbrev cX0_has : ByteArray := prog_2_method_2_code
def yX0_has : MethodName := ⟨"KnotNames$Camp", "has", "(I)Z"⟩
abbrev cX0_nameOf : ByteArray := prog_2_method_3_code
def yX0_nameOf : MethodName := ⟨"KnotNames$Camp", "nameOf", "(I)LKnotNames$Row;"⟩
abbrev cX0_empty : ByteArray := prog_2_method_4_code
def yX0_empty : MethodName := ⟨"KnotNames$Camp", "empty", "()V"⟩
abbrev cX0_addHerder : ByteArray := prog_2_method_5_code
def yX0_addHerder : MethodName := ⟨"KnotNames$Camp", "addHerder", "()V"⟩
abbrev cX0_tieLastHerder : ByteArray := prog_2_method_6_code
def yX0_tieLastHerder : MethodName := ⟨"KnotNames$Camp", "tieLastHerder", "(I)V"⟩
abbrev cX0_become : ByteArray := prog_2_method_7_code
def yX0_become : MethodName := ⟨"KnotNames$Camp", "become", "(LKnotNames$Camp;)V"⟩
abbrev cX0_turns : ByteArray := prog_2_method_8_code
def yX0_turns : MethodName := ⟨"KnotNames$Camp", "turns", "()I"⟩
abbrev cX0_named : ByteArray := prog_2_method_9_code
def yX0_named : MethodName := ⟨"KnotNames$Camp", "named", "()I"⟩
abbrev cX0_calledLike : ByteArray := prog_2_method_10_code
def yX0_calledLike : MethodName := ⟨"KnotNames$Camp", "calledLike", "(I)I"⟩
abbrev cX0_unlikeNames : ByteArray := prog_2_method_11_code
def yX0_unlikeNames : MethodName := ⟨"KnotNames$Camp", "unlikeNames", "()I"⟩
abbrev cX1_init : ByteArray := prog_3_method_1_code
def yX1_init : MethodName := ⟨"KnotNames$Lives", "<init>", "()V"⟩
abbrev cX1_readBack : ByteArray := prog_3_method_2_code
def yX1_readBack : MethodName := ⟨"KnotNames$Lives", "readBack", "(LKnotNames$Camp;)V"⟩
abbrev cX1_seek : ByteArray := prog_3_method_3_code
def yX1_seek : MethodName := ⟨"KnotNames$Lives", "seek", "(LKnotNames$Lives;LKnotNames$Camp;II)V"⟩
abbrev cX1_note : ByteArray := prog_3_method_4_code
def yX1_note : MethodName := ⟨"KnotNames$Lives", "note", "(I)V"⟩
abbrev cX1_inMost : ByteArray := prog_3_method_5_code
def yX1_inMost : MethodName := ⟨"KnotNames$Lives", "inMost", "()I"⟩
abbrev cX2_init : ByteArray := prog_4_method_1_code
def yX2_init : MethodName := ⟨"KnotNames$NewNames", "<init>", "()V"⟩
abbrev cX2_find : ByteArray := prog_4_method_2_code
def yX2_find : MethodName := ⟨"KnotNames$NewNames", "find", "(LKnotNames$Camp;II)V"⟩
abbrev cX2_spell : ByteArray := prog_4_method_3_code
def yX2_spell : MethodName := ⟨"KnotNames$NewNames", "spell", "(II)V"⟩
abbrev cX2_isFar : ByteArray := prog_4_method_4_code
def yX2_isFar : MethodName := ⟨"KnotNames$NewNames", "isFar", "(LKnotNames$Camp;I)Z"⟩
abbrev cX3_init : ByteArray := prog_5_method_1_code
def yX3_init : MethodName := ⟨"KnotNames$Past", "<init>", "()V"⟩
abbrev cX3_remember : ByteArray := prog_5_method_2_code
def yX3_remember : MethodName := ⟨"KnotNames$Past", "remember", "(LKnotNames$Camp;)V"⟩
abbrev cX3_takeBack : ByteArray := prog_5_method_3_code
def yX3_takeBack : MethodName := ⟨"KnotNames$Past", "takeBack", "(LKnotNames$Camp;)V"⟩
abbrev cX3_forget : ByteArray := prog_5_method_4_code
def yX3_forget : MethodName := ⟨"KnotNames$Past", "forget", "()V"⟩
abbrev cX4_init : ByteArray := prog_6_method_1_code
def yX4_init : MethodName := ⟨"KnotNames$Row", "<init>", "(I)V"⟩
abbrev cX4_at : ByteArray := prog_6_method_2_code
def yX4_at : MethodName := ⟨"KnotNames$Row", "at", "(I)I"⟩
abbrev cX4_last : ByteArray := prog_6_method_3_code
def yX4_last : MethodName := ⟨"KnotNames$Row", "last", "()I"⟩
abbrev cX4_empty : ByteArray := prog_6_method_4_code
def yX4_empty : MethodName := ⟨"KnotNames$Row", "empty", "()I"⟩
abbrev cX4_append : ByteArray := prog_6_method_5_code
def yX4_append : MethodName := ⟨"KnotNames$Row", "append", "(I)V"⟩
abbrev cX4_dropLast : ByteArray := prog_6_method_6_code
def yX4_dropLast : MethodName := ⟨"KnotNames$Row", "dropLast", "()V"⟩
abbrev cX4_endsUndoing : ByteArray := prog_6_method_7_code
def yX4_endsUndoing : MethodName := ⟨"KnotNames$Row", "endsUndoing", "(I)Z"⟩
abbrev cX4_takesTight : ByteArray := prog_6_method_8_code
def yX4_takesTight : MethodName := ⟨"KnotNames$Row", "takesTight", "(I)Z"⟩
abbrev cX4_appendTight : ByteArray := prog_6_method_9_code
def yX4_appendTight : MethodName := ⟨"KnotNames$Row", "appendTight", "(I)V"⟩
abbrev cX4_appendAllTight : ByteArray := prog_6_method_10_code
def yX4_appendAllTight : MethodName := ⟨"KnotNames$Row", "appendAllTight", "(LKnotNames$Row;)V"⟩
abbrev cX4_appendAllUndoing : ByteArray := prog_6_method_11_code
def yX4_appendAllUndoing : MethodName := ⟨"KnotNames$Row", "appendAllUndoing", "(LKnotNames$Row;)V"⟩
abbrev cX4_become : ByteArray := prog_6_method_12_code
def yX4_become : MethodName := ⟨"KnotNames$Row", "become", "(LKnotNames$Row;)V"⟩
abbrev cX4_becomeTight : ByteArray := prog_6_method_13_code
def yX4_becomeTight : MethodName := ⟨"KnotNames$Row", "becomeTight", "(LKnotNames$Row;)V"⟩
abbrev cX4_becomeJoined : ByteArray := prog_6_method_14_code
def yX4_becomeJoined : MethodName := ⟨"KnotNames$Row", "becomeJoined", "(LKnotNames$Row;LKnotNames$Row;)V"⟩
abbrev cX4_isTight : ByteArray := prog_6_method_15_code
def yX4_isTight : MethodName := ⟨"KnotNames$Row", "isTight", "()Z"⟩
abbrev cX4_commonStart : ByteArray := prog_6_method_16_code
def yX4_commonStart : MethodName := ⟨"KnotNames$Row", "commonStart", "(LKnotNames$Row;)I"⟩
abbrev cX4_isLike : ByteArray := prog_6_method_17_code
def yX4_isLike : MethodName := ⟨"KnotNames$Row", "isLike", "(LKnotNames$Row;)Z"⟩
abbrev cX4_compareWith : ByteArray := prog_6_method_18_code
def yX4_compareWith : MethodName := ⟨"KnotNames$Row", "compareWith", "(LKnotNames$Row;)I"⟩
abbrev cX4_differences : ByteArray := prog_6_method_19_code
def yX4_differences : MethodName := ⟨"KnotNames$Row", "differences", "(LKnotNames$Row;)I"⟩
abbrev cX4_shortestRepeated : ByteArray := prog_6_method_20_code
def yX4_shortestRepeated : MethodName := ⟨"KnotNames$Row", "shortestRepeated", "()I"⟩
abbrev cX4_repeats : ByteArray := prog_6_method_21_code
def yX4_repeats : MethodName := ⟨"KnotNames$Row", "repeats", "(I)Z"⟩
abbrev cX4_lostByBending : ByteArray := prog_6_method_22_code
def yX4_lostByBending : MethodName := ⟨"KnotNames$Row", "lostByBending", "()I"⟩
abbrev cX4_isRingOf : ByteArray := prog_6_method_23_code
def yX4_isRingOf : MethodName := ⟨"KnotNames$Row", "isRingOf", "(LKnotNames$Row;)Z"⟩
abbrev cX4_isRingBegunAt : ByteArray := prog_6_method_24_code
def yX4_isRingBegunAt : MethodName := ⟨"KnotNames$Row", "isRingBegunAt", "(ILKnotNames$Row;III)Z"⟩
abbrev cX5_init : ByteArray := prog_7_method_1_code
def yX5_init : MethodName := ⟨"KnotNames$Text", "<init>", "()V"⟩
abbrev cX5_append : ByteArray := prog_7_method_2_code
def yX5_append : MethodName := ⟨"KnotNames$Text", "append", "(I)Z"⟩
abbrev cX5_empty : ByteArray := prog_7_method_3_code
def yX5_empty : MethodName := ⟨"KnotNames$Text", "empty", "()V"⟩
abbrev cX5_isTurnLetter : ByteArray := prog_7_method_4_code
def yX5_isTurnLetter : MethodName := ⟨"KnotNames$Text", "isTurnLetter", "(C)Z"⟩
abbrev cX5_fault : ByteArray := prog_7_method_5_code
def yX5_fault : MethodName := ⟨"KnotNames$Text", "fault", "()I"⟩
abbrev cX5_tell : ByteArray := prog_7_method_6_code
def yX5_tell : MethodName := ⟨"KnotNames$Text", "tell", "(LKnotNames$Camp;)V"⟩
abbrev cX6_init : ByteArray := prog_1_method_1_code
def yX6_init : MethodName := ⟨"KnotNames", "<init>", "()V"⟩
abbrev cX6_type : ByteArray := prog_1_method_2_code
def yX6_type : MethodName := ⟨"KnotNames", "type", "(I)I"⟩
abbrev cX6_clear : ByteArray := prog_1_method_3_code
def yX6_clear : MethodName := ⟨"KnotNames", "clear", "()I"⟩
abbrev cX6_camp : ByteArray := prog_1_method_4_code
def yX6_camp : MethodName := ⟨"KnotNames", "camp", "()I"⟩
abbrev cX6_name : ByteArray := prog_1_method_5_code
def yX6_name : MethodName := ⟨"KnotNames", "name", "(II)I"⟩
abbrev cX6_contract : ByteArray := prog_1_method_6_code
def yX6_contract : MethodName := ⟨"KnotNames", "contract", "(I)I"⟩
abbrev cX6_now : ByteArray := prog_1_method_7_code
def yX6_now : MethodName := ⟨"KnotNames", "now", "(I)I"⟩
abbrev cX6_ties : ByteArray := prog_1_method_8_code
def yX6_ties : MethodName := ⟨"KnotNames", "ties", "(II)I"⟩
abbrev cX6_loosens : ByteArray := prog_1_method_9_code
def yX6_loosens : MethodName := ⟨"KnotNames", "loosens", "(I)I"⟩
abbrev cX6_bends : ByteArray := prog_1_method_10_code
def yX6_bends : MethodName := ⟨"KnotNames", "bends", "(II)I"⟩
abbrev cX6_unties : ByteArray := prog_1_method_11_code
def yX6_unties : MethodName := ⟨"KnotNames", "unties", "(I)I"⟩
abbrev cX6_adds : ByteArray := prog_1_method_12_code
def yX6_adds : MethodName := ⟨"KnotNames", "adds", "(I)I"⟩
abbrev cX6_tears : ByteArray := prog_1_method_13_code
def yX6_tears : MethodName := ⟨"KnotNames", "tears", "()I"⟩
abbrev cX6_undo : ByteArray := prog_1_method_14_code
def yX6_undo : MethodName := ⟨"KnotNames", "undo", "()I"⟩
abbrev cX6_alike : ByteArray := prog_1_method_15_code
def yX6_alike : MethodName := ⟨"KnotNames", "alike", "(I)I"⟩
abbrev cX6_ring : ByteArray := prog_1_method_16_code
def yX6_ring : MethodName := ⟨"KnotNames", "ring", "(I)I"⟩
abbrev cX6_way : ByteArray := prog_1_method_17_code
def yX6_way : MethodName := ⟨"KnotNames", "way", "(II)I"⟩
abbrev cX6_root : ByteArray := prog_1_method_18_code
def yX6_root : MethodName := ⟨"KnotNames", "root", "(I)I"⟩
abbrev cX6_order : ByteArray := prog_1_method_19_code
def yX6_order : MethodName := ⟨"KnotNames", "order", "(I)I"⟩
abbrev cX6_cold : ByteArray := prog_1_method_20_code
def yX6_cold : MethodName := ⟨"KnotNames", "cold", "(IIII)J"⟩
abbrev cX6_mixed : ByteArray := prog_1_method_21_code
def yX6_mixed : MethodName := ⟨"KnotNames", "mixed", "(II)I"⟩
abbrev cX6_newName : ByteArray := prog_1_method_22_code
def yX6_newName : MethodName := ⟨"KnotNames", "newName", "(III)I"⟩
abbrev cX6_pulls : ByteArray := prog_1_method_23_code
def yX6_pulls : MethodName := ⟨"KnotNames", "pulls", "(I)I"⟩
abbrev cX6_lives : ByteArray := prog_1_method_24_code
def yX6_lives : MethodName := ⟨"KnotNames", "lives", "(I)I"⟩
abbrev cX6_next : ByteArray := prog_1_method_25_code
def yX6_next : MethodName := ⟨"KnotNames", "next", "()I"⟩
abbrev cX6_porridge : ByteArray := prog_1_method_26_code
def yX6_porridge : MethodName := ⟨"KnotNames", "porridge", "(IIII)I"⟩
abbrev cX6_share : ByteArray := prog_1_method_27_code
def yX6_share : MethodName := ⟨"KnotNames", "share", "(II)I"⟩
abbrev cX6_rate : ByteArray := prog_1_method_28_code
def yX6_rate : MethodName := ⟨"KnotNames", "rate", "(II)I"⟩
abbrev cX6_keep : ByteArray := prog_1_method_29_code
def yX6_keep : MethodName := ⟨"KnotNames", "keep", "(I)I"⟩
abbrev cX6_back : ByteArray := prog_1_method_30_code
def yX6_back : MethodName := ⟨"KnotNames", "back", "(I)I"⟩
abbrev cX6_count : ByteArray := prog_1_method_31_code
def yX6_count : MethodName := ⟨"KnotNames", "count", "(I)I"⟩
abbrev cX6_trace : ByteArray := prog_1_method_32_code
def yX6_trace : MethodName := ⟨"KnotNames", "trace", "()J"⟩
abbrev cX6_asHerder : ByteArray := prog_1_method_33_code
def yX6_asHerder : MethodName := ⟨"KnotNames", "asHerder", "(I)I"⟩
abbrev cX6_asChief : ByteArray := prog_1_method_34_code
def yX6_asChief : MethodName := ⟨"KnotNames", "asChief", "(I)I"⟩
abbrev cX6_asLiar : ByteArray := prog_1_method_35_code
def yX6_asLiar : MethodName := ⟨"KnotNames", "asLiar", "(I)I"⟩
abbrev cX6_asFist : ByteArray := prog_1_method_36_code
def yX6_asFist : MethodName := ⟨"KnotNames", "asFist", "(I)I"⟩
abbrev cX6_asThief : ByteArray := prog_1_method_37_code
def yX6_asThief : MethodName := ⟨"KnotNames", "asThief", "(I)I"⟩
abbrev cX6_asWidow : ByteArray := prog_1_method_38_code
def yX6_asWidow : MethodName := ⟨"KnotNames", "asWidow", "(I)I"⟩
abbrev cX6_isWithin : ByteArray := prog_1_method_39_code
def yX6_isWithin : MethodName := ⟨"KnotNames", "isWithin", "(III)Z"⟩
abbrev cX6_isTurn : ByteArray := prog_1_method_40_code
def yX6_isTurn : MethodName := ⟨"KnotNames", "isTurn", "(I)Z"⟩
abbrev cX6_undoing : ByteArray := prog_1_method_41_code
def yX6_undoing : MethodName := ⟨"KnotNames", "undoing", "(I)I"⟩
abbrev cX6_lengthOrTurn : ByteArray := prog_1_method_42_code
def yX6_lengthOrTurn : MethodName := ⟨"KnotNames", "lengthOrTurn", "(LKnotNames$Row;I)I"⟩
abbrev cX6_takenFor : ByteArray := prog_1_method_43_code
def yX6_takenFor : MethodName := ⟨"KnotNames", "takenFor", "(III)I"⟩
abbrev cX6_power : ByteArray := prog_1_method_44_code
def yX6_power : MethodName := ⟨"KnotNames", "power", "(II)J"⟩
abbrev cX6_leastTerms : ByteArray := prog_1_method_45_code
def yX6_leastTerms : MethodName := ⟨"KnotNames", "leastTerms", "(JJI)J"⟩
abbrev cX6_commonDivisor : ByteArray := prog_1_method_46_code
def yX6_commonDivisor : MethodName := ⟨"KnotNames", "commonDivisor", "(JJ)J"⟩
abbrev cX6_mostPairs : ByteArray := prog_1_method_47_code
def yX6_mostPairs : MethodName := ⟨"KnotNames", "mostPairs", "(LKnotNames$Row;)I"⟩
abbrev cX6_mostPairsWithin : ByteArray := prog_1_method_48_code
def yX6_mostPairsWithin : MethodName := ⟨"KnotNames", "mostPairsWithin", "(LKnotNames$Row;II)I"⟩
abbrev cX7_init : ByteArray := prog_9_method_1_code
def yX7_init : MethodName := ⟨"KnotNamesModel", "<init>", "()V"⟩
abbrev cX7_in : ByteArray := prog_9_method_3_code
def yX7_in : MethodName := ⟨"KnotNamesModel", "in", "(JJJ)Z"⟩
abbrev cX7_isTwo : ByteArray := prog_9_method_4_code
def yX7_isTwo : MethodName := ⟨"KnotNamesModel", "isTwo", "(I)Z"⟩
abbrev cX7_isTurn : ByteArray := prog_9_method_5_code
def yX7_isTurn : MethodName := ⟨"KnotNamesModel", "isTurn", "(I)Z"⟩
abbrev cX7_bits : ByteArray := prog_9_method_6_code
def yX7_bits : MethodName := ⟨"KnotNamesModel", "bits", "(I)I"⟩
abbrev cX7_tie : ByteArray := prog_9_method_7_code
def yX7_tie : MethodName := ⟨"KnotNamesModel", "tie", "(I)V"⟩
abbrev cX7_tieRow : ByteArray := prog_9_method_8_code
def yX7_tieRow : MethodName := ⟨"KnotNamesModel", "tieRow", "(II)V"⟩
abbrev cX7_tieName : ByteArray := prog_9_method_9_code
def yX7_tieName : MethodName := ⟨"KnotNamesModel", "tieName", "(I)V"⟩
abbrev cX7_type : ByteArray := prog_9_method_10_code
def yX7_type : MethodName := ⟨"KnotNamesModel", "type", "(I)I"⟩
abbrev cX7_clear : ByteArray := prog_9_method_11_code
def yX7_clear : MethodName := ⟨"KnotNamesModel", "clear", "()I"⟩
abbrev cX7_turnOf : ByteArray := prog_9_method_12_code
def yX7_turnOf : MethodName := ⟨"KnotNamesModel", "turnOf", "(I)I"⟩
abbrev cX7_ahead : ByteArray := prog_9_method_13_code
def yX7_ahead : MethodName := ⟨"KnotNamesModel", "ahead", "()I"⟩
abbrev cX7_takesHerder : ByteArray := prog_9_method_14_code
def yX7_takesHerder : MethodName := ⟨"KnotNamesModel", "takesHerder", "(I)Z"⟩
abbrev cX7_camp : ByteArray := prog_9_method_15_code
def yX7_camp : MethodName := ⟨"KnotNamesModel", "camp", "()I"⟩
abbrev cX7_copies : ByteArray := prog_9_method_16_code
def yX7_copies : MethodName := ⟨"KnotNamesModel", "copies", "([II[II)V"⟩
abbrev cX7_isHerder : ByteArray := prog_9_method_17_code
def yX7_isHerder : MethodName := ⟨"KnotNamesModel", "isHerder", "(I)Z"⟩
abbrev cX7_name : ByteArray := prog_9_method_18_code
def yX7_name : MethodName := ⟨"KnotNamesModel", "name", "(II)I"⟩
abbrev cX7_contract : ByteArray := prog_9_method_19_code
def yX7_contract : MethodName := ⟨"KnotNamesModel", "contract", "(I)I"⟩
abbrev cX7_turnsOfAll : ByteArray := prog_9_method_20_code
def yX7_turnsOfAll : MethodName := ⟨"KnotNamesModel", "turnsOfAll", "()I"⟩
abbrev cX7_namesThere : ByteArray := prog_9_method_21_code
def yX7_namesThere : MethodName := ⟨"KnotNamesModel", "namesThere", "()I"⟩
abbrev cX7_now : ByteArray := prog_9_method_22_code
def yX7_now : MethodName := ⟨"KnotNamesModel", "now", "(I)I"⟩
abbrev cX7_remember : ByteArray := prog_9_method_23_code
def yX7_remember : MethodName := ⟨"KnotNamesModel", "remember", "()V"⟩
abbrev cX7_names : ByteArray := prog_9_method_24_code
def yX7_names : MethodName := ⟨"KnotNamesModel", "names", "(I)V"⟩
abbrev cX7_ties : ByteArray := prog_9_method_25_code
def yX7_ties : MethodName := ⟨"KnotNamesModel", "ties", "(II)I"⟩
abbrev cX7_loosens : ByteArray := prog_9_method_26_code
def yX7_loosens : MethodName := ⟨"KnotNamesModel", "loosens", "(I)I"⟩
abbrev cX7_bends : ByteArray := prog_9_method_27_code
def yX7_bends : MethodName := ⟨"KnotNamesModel", "bends", "(II)I"⟩
abbrev cX7_unties : ByteArray := prog_9_method_28_code
def yX7_unties : MethodName := ⟨"KnotNamesModel", "unties", "(I)I"⟩
abbrev cX7_adds : ByteArray := prog_9_method_29_code
def yX7_adds : MethodName := ⟨"KnotNamesModel", "adds", "(I)I"⟩
abbrev cX7_tears : ByteArray := prog_9_method_30_code
def yX7_tears : MethodName := ⟨"KnotNamesModel", "tears", "()I"⟩
abbrev cX7_undo : ByteArray := prog_9_method_31_code
def yX7_undo : MethodName := ⟨"KnotNamesModel", "undo", "()I"⟩
abbrev cX7_turnAt : ByteArray := prog_9_method_32_code
def yX7_turnAt : MethodName := ⟨"KnotNamesModel", "turnAt", "(II)I"⟩
abbrev cX7_unlike : ByteArray := prog_9_method_33_code
def yX7_unlike : MethodName := ⟨"KnotNamesModel", "unlike", "(II)I"⟩
abbrev cX7_nearTo : ByteArray := prog_9_method_34_code
def yX7_nearTo : MethodName := ⟨"KnotNamesModel", "nearTo", "(II)I"⟩
abbrev cX7_alikeOf : ByteArray := prog_9_method_35_code
def yX7_alikeOf : MethodName := ⟨"KnotNamesModel", "alikeOf", "(I)I"⟩
abbrev cX7_alike : ByteArray := prog_9_method_36_code
def yX7_alike : MethodName := ⟨"KnotNamesModel", "alike", "(I)I"⟩
abbrev cX7_ends : ByteArray := prog_9_method_37_code
def yX7_ends : MethodName := ⟨"KnotNamesModel", "ends", "(I)I"⟩
abbrev cX7_isRing : ByteArray := prog_9_method_38_code
def yX7_isRing : MethodName := ⟨"KnotNamesModel", "isRing", "(II)Z"⟩
abbrev cX7_ring : ByteArray := prog_9_method_39_code
def yX7_ring : MethodName := ⟨"KnotNamesModel", "ring", "(I)I"⟩
abbrev cX7_way : ByteArray := prog_9_method_40_code
def yX7_way : MethodName := ⟨"KnotNamesModel", "way", "(II)I"⟩
abbrev cX7_rootOf : ByteArray := prog_9_method_41_code
def yX7_rootOf : MethodName := ⟨"KnotNamesModel", "rootOf", "(I)I"⟩
abbrev cX7_root : ByteArray := prog_9_method_42_code
def yX7_root : MethodName := ⟨"KnotNamesModel", "root", "(I)I"⟩
abbrev cX7_isAhead : ByteArray := prog_9_method_43_code
def yX7_isAhead : MethodName := ⟨"KnotNamesModel", "isAhead", "(II)Z"⟩
abbrev cX7_order : ByteArray := prog_9_method_44_code
def yX7_order : MethodName := ⟨"KnotNamesModel", "order", "(I)I"⟩
abbrev cX7_least : ByteArray := prog_9_method_45_code
def yX7_least : MethodName := ⟨"KnotNamesModel", "least", "(JJI)J"⟩
abbrev cX7_cold : ByteArray := prog_9_method_46_code
def yX7_cold : MethodName := ⟨"KnotNamesModel", "cold", "(IIII)J"⟩
abbrev cX7_mixed : ByteArray := prog_9_method_47_code
def yX7_mixed : MethodName := ⟨"KnotNamesModel", "mixed", "(II)I"⟩
abbrev cX7_isNew : ByteArray := prog_9_method_48_code
def yX7_isNew : MethodName := ⟨"KnotNamesModel", "isNew", "(III)Z"⟩
abbrev cX7_newName : ByteArray := prog_9_method_49_code
def yX7_newName : MethodName := ⟨"KnotNamesModel", "newName", "(III)I"⟩
abbrev cX7_mend : ByteArray := prog_9_method_50_code
def yX7_mend : MethodName := ⟨"KnotNamesModel", "mend", "()I"⟩
abbrev cX7_tieContract : ByteArray := prog_9_method_51_code
def yX7_tieContract : MethodName := ⟨"KnotNamesModel", "tieContract", "()V"⟩
abbrev cX7_pulls : ByteArray := prog_9_method_52_code
def yX7_pulls : MethodName := ⟨"KnotNamesModel", "pulls", "(I)I"⟩
abbrev cX7_isLife : ByteArray := prog_9_method_53_code
def yX7_isLife : MethodName := ⟨"KnotNamesModel", "isLife", "(II)Z"⟩
abbrev cX7_layContract : ByteArray := prog_9_method_54_code
def yX7_layContract : MethodName := ⟨"KnotNamesModel", "layContract", "()V"⟩
abbrev cX7_lives : ByteArray := prog_9_method_55_code
def yX7_lives : MethodName := ⟨"KnotNamesModel", "lives", "(I)I"⟩
abbrev cX7_next : ByteArray := prog_9_method_56_code
def yX7_next : MethodName := ⟨"KnotNamesModel", "next", "()I"⟩
abbrev cX7_porridge : ByteArray := prog_9_method_57_code
def yX7_porridge : MethodName := ⟨"KnotNamesModel", "porridge", "(IIII)I"⟩
abbrev cX7_share : ByteArray := prog_9_method_58_code
def yX7_share : MethodName := ⟨"KnotNamesModel", "share", "(II)I"⟩
abbrev cX7_rate : ByteArray := prog_9_method_59_code
def yX7_rate : MethodName := ⟨"KnotNamesModel", "rate", "(II)I"⟩
abbrev cX7_keep : ByteArray := prog_9_method_60_code
def yX7_keep : MethodName := ⟨"KnotNamesModel", "keep", "(I)I"⟩
abbrev cX7_back : ByteArray := prog_9_method_61_code
def yX7_back : MethodName := ⟨"KnotNamesModel", "back", "(I)I"⟩
abbrev cX7_count : ByteArray := prog_9_method_62_code
def yX7_count : MethodName := ⟨"KnotNamesModel", "count", "(I)I"⟩
abbrev cX7_trace : ByteArray := prog_9_method_63_code
def yX7_trace : MethodName := ⟨"KnotNamesModel", "trace", "()J"⟩
abbrev cJ6_compare_7cf53 : ByteArray := prog_11_method_40_code
def yJ6_compare_7cf53 : MethodName := ⟨"java/lang/Integer", "compare", "(II)I"⟩
abbrev cJ6_bitCount_0f7a4 : ByteArray := prog_11_method_49_code
def yJ6_bitCount_0f7a4 : MethodName := ⟨"java/lang/Integer", "bitCount", "(I)I"⟩
abbrev cJ0_length_8abf5 : ByteArray := prog_13_method_54_code
def yJ0_length_8abf5 : MethodName := ⟨"java/lang/String", "length", "()I"⟩
abbrev cJ0_indexOf_0f7a4 : ByteArray := prog_13_method_79_code
def yJ0_indexOf_0f7a4 : MethodName := ⟨"java/lang/String", "indexOf", "(I)I"⟩
abbrev cJ0_indexOf_7cf53 : ByteArray := prog_13_method_80_code
def yJ0_indexOf_7cf53 : MethodName := ⟨"java/lang/String", "indexOf", "(II)I"⟩
abbrev cJ0_coder_7d493 : ByteArray := prog_13_method_152_code
def yJ0_coder_7d493 : MethodName := ⟨"java/lang/String", "coder", "()B"⟩
abbrev cJ0_isLatin1_aae02 : ByteArray := prog_13_method_154_code
def yJ0_isLatin1_aae02 : MethodName := ⟨"java/lang/String", "isLatin1", "()Z"⟩
abbrev cJ1_canEncode_9a6ad : ByteArray := prog_14_method_4_code
def yJ1_canEncode_9a6ad : MethodName := ⟨"java/lang/StringLatin1", "canEncode", "(I)Z"⟩
abbrev cJ1_indexOf_4cfef : ByteArray := prog_14_method_22_code
def yJ1_indexOf_4cfef : MethodName := ⟨"java/lang/StringLatin1", "indexOf", "([BIII)I"⟩
abbrev cJ1_indexOfChar_4cfef : ByteArray := prog_14_method_23_code
def yJ1_indexOfChar_4cfef : MethodName := ⟨"java/lang/StringLatin1", "indexOfChar", "([BIII)I"⟩
abbrev cL_law : ByteArray := code
def yL_law : MethodName := ⟨"KnotNamesLaw", "law", "([I)Z"⟩
abbrev vwCl : List vw_C := [(RX0, TX0, 3), (RX1, TX1, 7), (RX2, TX2, 3), (RX3, TX3, 3), (RX4, TX4, 2), (RX5, TX5, 2), (RX6, TX6, 12), (RX7, TX7, 20)]
