def mw_0 : List (Nat × Nat × Nat × Nat × Bool) := [(120, 80, 119, 0, false), (439, 80, 438, 13, false), (444, 80, 443, 14, false), (395, 80, 394, 4, false), (403, 80, 402, 6, false), (407, 80, 406, 7, false), (504, 80, 503, 24, false), (485, 80, 484, 21, false), (463, 80, 462, 16, false), (471, 80, 470, 18, false), (467, 80, 466, 17, false), (182, 84, 181, 0, false), (687, 84, 686, 44, false), (692, 84, 691, 0, true), (699, 84, 698, 45, false), (711, 84, 710, 47, false), (216, 85, 215, 0, false), (644, 85, 643, 38, false), (649, 85, 648, 39, false), (660, 85, 659, 41, false)]
def mw_1 : List (Nat × Nat × Nat × Nat × Bool) := [(162, 83, 161, 0, false), (500, 83, 499, 23, false), (559, 83, 558, 30, false), (430, 83, 429, 12, false), (127, 81, 126, 0, false), (451, 81, 450, 15, false), (518, 81, 517, 26, false), (399, 81, 398, 5, false), (426, 81, 425, 11, false), (422, 81, 421, 10, false), (415, 81, 414, 9, false), (496, 81, 495, 22, false), (411, 81, 410, 8, false), (535, 81, 534, 29, false), (703, 81, 702, 46, false), (508, 81, 507, 25, false), (531, 81, 530, 28, false), (527, 81, 526, 27, false), (656, 81, 655, 40, false), (479, 81, 478, 20, false)]
def mw_2 : List (Nat × Nat × Nat × Nat × Bool) := [(475, 81, 474, 19, false), (605, 81, 604, 36, false), (636, 81, 635, 37, false), (593, 81, 592, 34, false), (597, 81, 596, 35, false), (576, 81, 575, 32, false), (572, 81, 571, 31, false), (580, 81, 579, 33, false), (105, 79, 104, 0, false), (283, 79, 282, 0, false), (291, 79, 290, 1, false), (302, 79, 301, 0, true), (299, 79, 298, 2, false), (391, 79, 390, 3, false), (97, 78, 96, 0, false), (276, 78, 274, 275, false), (287, 78, 285, 286, false), (295, 78, 293, 294, false), (435, 78, 433, 434, false), (455, 78, 453, 454, false)]
def mw_3 : List (Nat × Nat × Nat × Nat × Bool) := [(459, 78, 457, 458, false), (489, 78, 487, 488, false), (514, 78, 512, 513, false), (523, 78, 521, 522, false), (541, 78, 539, 540, false), (546, 78, 544, 545, false), (551, 78, 549, 550, false), (555, 78, 553, 554, false), (563, 78, 561, 562, false), (568, 78, 566, 567, false), (584, 78, 582, 583, false), (589, 78, 587, 588, false), (601, 78, 599, 600, false), (612, 78, 610, 611, false), (632, 78, 630, 631, false), (640, 78, 638, 639, false), (667, 78, 665, 666, false), (683, 78, 681, 682, false), (707, 78, 705, 706, false), (715, 78, 713, 714, false)]
def mw_4 : List (Nat × Nat × Nat × Nat × Bool) := [(728, 78, 726, 727, false), (732, 78, 730, 731, false), (766, 78, 764, 765, false), (771, 78, 769, 770, false), (775, 78, 773, 774, false), (779, 78, 777, 778, false), (737, 78, 736, 48, false), (741, 78, 740, 49, false), (746, 78, 745, 50, false), (751, 78, 750, 51, false), (756, 78, 755, 52, false), (761, 78, 760, 53, false), (279, 78, 278, 0, true), (492, 78, 491, 0, true), (418, 78, 417, 0, true), (447, 78, 446, 0, true), (625, 78, 624, 0, true), (628, 78, 627, 0, true), (616, 78, 615, 0, true), (619, 78, 618, 0, true)]
def mw_5 : List (Nat × Nat × Nat × Nat × Bool) := [(672, 78, 671, 42, false), (677, 78, 676, 43, false), (784, 86, 783, 0, false), (854, 86, 853, 0, true), (1014, 86, 1013, 0, true), (929, 86, 928, 0, true), (1059, 86, 1058, 0, true), (877, 86, 876, 56, false), (938, 86, 937, 65, false), (934, 86, 933, 64, false), (850, 86, 848, 849, false), (858, 86, 856, 857, false), (873, 86, 872, 0, true), (866, 86, 865, 54, false), (870, 86, 869, 55, false), (862, 86, 860, 861, false), (880, 86, 879, 0, true), (888, 86, 887, 57, false), (884, 86, 882, 883, false), (893, 86, 891, 892, false)]
def mw_6 : List (Nat × Nat × Nat × Nat × Bool) := [(922, 86, 921, 63, false), (901, 86, 900, 58, false), (897, 86, 895, 896, false), (942, 86, 941, 66, false), (946, 86, 945, 67, false), (926, 86, 924, 925, false), (950, 86, 948, 949, false), (954, 86, 952, 953, false), (958, 86, 956, 957, false), (962, 86, 960, 961, false), (966, 86, 964, 965, false), (970, 86, 968, 969, false), (918, 86, 917, 62, false), (913, 86, 912, 61, false), (909, 86, 908, 60, false), (905, 86, 904, 59, false), (974, 86, 972, 973, false), (986, 86, 985, 69, false), (982, 86, 981, 68, false), (978, 86, 976, 977, false)]
def mw_7 : List (Nat × Nat × Nat × Nat × Bool) := [(990, 86, 988, 989, false), (998, 86, 997, 70, false), (994, 86, 992, 993, false), (1006, 86, 1005, 71, false), (1002, 86, 1000, 1001, false), (1017, 86, 1016, 0, true), (1010, 86, 1008, 1009, false), (1021, 86, 1019, 1020, false), (1031, 86, 1030, 72, false), (1026, 86, 1024, 1025, false), (1044, 86, 1043, 74, false), (1040, 86, 1039, 73, false), (1035, 86, 1033, 1034, false), (1056, 86, 1055, 76, false), (1052, 86, 1051, 75, false), (1048, 86, 1046, 1047, false), (1063, 86, 1061, 1062, false), (1067, 86, 1065, 1066, false), (1072, 86, 1070, 1071, false), (1077, 86, 1075, 1076, false)]
def mw_8 : List (Nat × Nat × Nat × Nat × Bool) := [(1086, 86, 1084, 1085, false), (1090, 86, 1088, 1089, false), (1094, 86, 1092, 1093, false), (1098, 86, 1096, 1097, false), (608, 92, 607, 0, true), (718, 92, 717, 0, true), (321, 87, 319, 320, false), (307, 87, 305, 306, false), (311, 87, 309, 310, false), (325, 87, 323, 324, false), (315, 87, 313, 314, false), (331, 88, 330, 0, true), (328, 88, 327, 0, true), (338, 88, 337, 0, true), (0, 0, 0, 0, true)]
def stNs : List MethodName := [yX1_seek, yX5_isTurnLetter, yX6_isWithin, yX6_isTurn, yX6_undoing, yX6_lengthOrTurn, yX6_takenFor, yX6_power, yX6_leastTerms, yX6_commonDivisor, yX7_in, yX7_isTwo, yX7_isTurn, yX7_bits, yX7_turnOf, yX7_copies, yX7_least, yJ6_compare_7cf53, yJ6_bitCount_0f7a4, yJ1_canEncode_9a6ad, yJ1_indexOf_4cfef, yJ1_indexOfChar_4cfef, yL_law]
def isSt (y : MethodName) : Bool := decide (y ∈ stNs)
def mOK (m : MT) (q : Nat × Nat × Nat × Nat × Bool) : Prop := lw_tbl[q.1]? = some (.code m.2.1 m.2.2.1 m.2.2.2.1 m.2.2.2.2.1) ∧ lw_tbl[q.2.1]? = some (.initialized m.2.1.cls) ∧ (m.2.1.cls = nm m.1 ∧ plainName m.2.1.cls = true ∧ (m.2.2.2.2.2.1 = true → m.2.1.name = "<init>") ∧ (m.2.1.cls ≠ "java/lang/invoke/MethodHandle" ∧ m.2.1.cls ≠ "java/lang/invoke/VarHandle")) ∧ m.2.2.2.1 ≤ 40 ∧
  ((isSt m.2.1 = true ∧ lw_tbl[q.2.2.1]? = some (.static m.2.1)) ∨ (isSt m.2.1 = false ∧ lw_tbl[q.2.2.1]? = some (.instanceMethod m.2.1) ∧ (m.2.1.name = "<init>" ∨ lw_tbl[q.2.2.2.1]? = some (.selects m.2.1.cls m.2.1 m.2.1))))
def all2 {α β : Type} (P : α → β → Prop) : List α → List β → Prop
  | a :: as, b :: bs => P a b ∧ all2 P as bs
  | _, _ => True
set_option maxRecDepth 100000 in
theorem mo_Camp_init : mOK m_Camp_init (120, 80, 119, 0, false) := ⟨rfl, by decide +kernel, by decide +kernel, by decide +kernel, by decide +kernel⟩
set_option maxRecDepth 100000 in
theorem mo_Camp_has : mOK m_Camp_has (439, 80, 438, 13, false) := ⟨rfl, by decide +kernel, by decide +kernel, by decide +kernel, by decide +kernel⟩
set_option maxRecDepth 100000 in
theorem mo_Camp_nameOf : mOK m_Camp_nameOf (444, 80, 443, 14, false) := ⟨rfl, by decide +kernel, by decide +kernel, by decide +kernel, by decide +kernel⟩
set_option maxRecDepth 100000 in
theorem mo_Camp_empty : mOK m_Camp_empty (395, 80, 394, 4, false) := ⟨rfl, by decide +kernel, by decide +kernel, by decide +kernel, by decide +kernel⟩
set_option maxRecDepth 100000 in
theorem mo_Camp_addHerder : mOK m_Camp_addHerder (403, 80, 402, 6, false) := ⟨rfl, by decide +kernel, by decide +kernel, by decide +kernel, by decide +kernel⟩
set_option maxRecDepth 100000 in
theorem mo_Camp_tieLastHerder : mOK m_Camp_tieLastHerder (407, 80, 406, 7, false) := ⟨rfl, by decide +kernel, by decide +kernel, by decide +kernel, by decide +kernel⟩
set_option maxRecDepth 100000 in
theorem mo_Camp_become : mOK m_Camp_become (504, 80, 503, 24, false) := ⟨rfl, by decide +kernel, by decide +kernel, by decide +kernel, by decide +kernel⟩
set_option maxRecDepth 100000 in
theorem mo_Camp_turns : mOK m_Camp_turns (485, 80, 484, 21, false) := ⟨rfl, by decide +kernel, by decide +kernel, by decide +kernel, by decide +kernel⟩
set_option maxRecDepth 100000 in
theorem mo_Camp_named : mOK m_Camp_named (463, 80, 462, 16, false) := ⟨rfl, by decide +kernel, by decide +kernel, by decide +kernel, by decide +kernel⟩
set_option maxRecDepth 100000 in
theorem mo_Camp_calledLike : mOK m_Camp_calledLike (471, 80, 470, 18, false) := ⟨rfl, by decide +kernel, by decide +kernel, by decide +kernel, by decide +kernel⟩
set_option maxRecDepth 100000 in
theorem mo_Camp_unlikeNames : mOK m_Camp_unlikeNames (467, 80, 466, 17, false) := ⟨rfl, by decide +kernel, by decide +kernel, by decide +kernel, by decide +kernel⟩
set_option maxRecDepth 100000 in
theorem mo_Lives_init : mOK m_Lives_init (182, 84, 181, 0, false) := ⟨rfl, by decide +kernel, by decide +kernel, by decide +kernel, by decide +kernel⟩
set_option maxRecDepth 100000 in
theorem mo_Lives_readBack : mOK m_Lives_readBack (687, 84, 686, 44, false) := ⟨rfl, by decide +kernel, by decide +kernel, by decide +kernel, by decide +kernel⟩
set_option maxRecDepth 100000 in
theorem mo_Lives_seek : mOK m_Lives_seek (692, 84, 691, 0, true) := ⟨rfl, by decide +kernel, by decide +kernel, by decide +kernel, by decide +kernel⟩
set_option maxRecDepth 100000 in
theorem mo_Lives_note : mOK m_Lives_note (699, 84, 698, 45, false) := ⟨rfl, by decide +kernel, by decide +kernel, by decide +kernel, by decide +kernel⟩
set_option maxRecDepth 100000 in
theorem mo_Lives_inMost : mOK m_Lives_inMost (711, 84, 710, 47, false) := ⟨rfl, by decide +kernel, by decide +kernel, by decide +kernel, by decide +kernel⟩
set_option maxRecDepth 100000 in
theorem mo_NewN_init : mOK m_NewN_init (216, 85, 215, 0, false) := ⟨rfl, by decide +kernel, by decide +kernel, by decide +kernel, by decide +kernel⟩
set_option maxRecDepth 100000 in
theorem mo_NewN_find : mOK m_NewN_find (644, 85, 643, 38, false) := ⟨rfl, by decide +kernel, by decide +kernel, by decide +kernel, by decide +kernel⟩
set_option maxRecDepth 100000 in
theorem mo_NewN_spell : mOK m_NewN_spell (649, 85, 648, 39, false) := ⟨rfl, by decide +kernel, by decide +kernel, by decide +kernel, by decide +kernel⟩
set_option maxRecDepth 100000 in
theorem mo_NewN_isFar : mOK m_NewN_isFar (660, 85, 659, 41, false) := ⟨rfl, by decide +kernel, by decide +kernel, by decide +kernel, by decide +kernel⟩
set_option maxRecDepth 100000 in
theorem mo_Past_init : mOK m_Past_init (162, 83, 161, 0, false) := ⟨rfl, by decide +kernel, by decide +kernel, by decide +kernel, by decide +kernel⟩
set_option maxRecDepth 100000 in
theorem mo_Past_remember : mOK m_Past_remember (500, 83, 499, 23, false) := ⟨rfl, by decide +kernel, by decide +kernel, by decide +kernel, by decide +kernel⟩
set_option maxRecDepth 100000 in
theorem mo_Past_takeBack : mOK m_Past_takeBack (559, 83, 558, 30, false) := ⟨rfl, by decide +kernel, by decide +kernel, by decide +kernel, by decide +kernel⟩
set_option maxRecDepth 100000 in
theorem mo_Past_forget : mOK m_Past_forget (430, 83, 429, 12, false) := ⟨rfl, by decide +kernel, by decide +kernel, by decide +kernel, by decide +kernel⟩
set_option maxRecDepth 100000 in
theorem mo_Row_init : mOK m_Row_init (127, 81, 126, 0, false) := ⟨rfl, by decide +kernel, by decide +kernel, by decide +kernel, by decide +kernel⟩
set_option maxRecDepth 100000 in
theorem mo_Row_at : mOK m_Row_at (451, 81, 450, 15, false) := ⟨rfl, by decide +kernel, by decide +kernel, by decide +kernel, by decide +kernel⟩
set_option maxRecDepth 100000 in
theorem mo_Row_last : mOK m_Row_last (518, 81, 517, 26, false) := ⟨rfl, by decide +kernel, by decide +kernel, by decide +kernel, by decide +kernel⟩
set_option maxRecDepth 100000 in
theorem mo_Row_empty : mOK m_Row_empty (399, 81, 398, 5, false) := ⟨rfl, by decide +kernel, by decide +kernel, by decide +kernel, by decide +kernel⟩
set_option maxRecDepth 100000 in
theorem mo_Row_append : mOK m_Row_append (426, 81, 425, 11, false) := ⟨rfl, by decide +kernel, by decide +kernel, by decide +kernel, by decide +kernel⟩
set_option maxRecDepth 100000 in
theorem mo_Row_dropLast : mOK m_Row_dropLast (422, 81, 421, 10, false) := ⟨rfl, by decide +kernel, by decide +kernel, by decide +kernel, by decide +kernel⟩
set_option maxRecDepth 100000 in
theorem mo_Row_endsUndoing : mOK m_Row_endsUndoing (415, 81, 414, 9, false) := ⟨rfl, by decide +kernel, by decide +kernel, by decide +kernel, by decide +kernel⟩
set_option maxRecDepth 100000 in
theorem mo_Row_takesTight : mOK m_Row_takesTight (496, 81, 495, 22, false) := ⟨rfl, by decide +kernel, by decide +kernel, by decide +kernel, by decide +kernel⟩
set_option maxRecDepth 100000 in
theorem mo_Row_appendTight : mOK m_Row_appendTight (411, 81, 410, 8, false) := ⟨rfl, by decide +kernel, by decide +kernel, by decide +kernel, by decide +kernel⟩
set_option maxRecDepth 100000 in
theorem mo_Row_appendAllTight : mOK m_Row_appendAllTight (535, 81, 534, 29, false) := ⟨rfl, by decide +kernel, by decide +kernel, by decide +kernel, by decide +kernel⟩
set_option maxRecDepth 100000 in
theorem mo_Row_appendAllUndoing : mOK m_Row_appendAllUndoing (703, 81, 702, 46, false) := ⟨rfl, by decide +kernel, by decide +kernel, by decide +kernel, by decide +kernel⟩
set_option maxRecDepth 100000 in
theorem mo_Row_become : mOK m_Row_become (508, 81, 507, 25, false) := ⟨rfl, by decide +kernel, by decide +kernel, by decide +kernel, by decide +kernel⟩
set_option maxRecDepth 100000 in
theorem mo_Row_becomeTight : mOK m_Row_becomeTight (531, 81, 530, 28, false) := ⟨rfl, by decide +kernel, by decide +kernel, by decide +kernel, by decide +kernel⟩
set_option maxRecDepth 100000 in
theorem mo_Row_becomeJoined : mOK m_Row_becomeJoined (527, 81, 526, 27, false) := ⟨rfl, by decide +kernel, by decide +kernel, by decide +kernel, by decide +kernel⟩
set_option maxRecDepth 100000 in
theorem mo_Row_isTight : mOK m_Row_isTight (656, 81, 655, 40, false) := ⟨rfl, by decide +kernel, by decide +kernel, by decide +kernel, by decide +kernel⟩
set_option maxRecDepth 100000 in
theorem mo_Row_commonStart : mOK m_Row_commonStart (479, 81, 478, 20, false) := ⟨rfl, by decide +kernel, by decide +kernel, by decide +kernel, by decide +kernel⟩
set_option maxRecDepth 100000 in
theorem mo_Row_isLike : mOK m_Row_isLike (475, 81, 474, 19, false) := ⟨rfl, by decide +kernel, by decide +kernel, by decide +kernel, by decide +kernel⟩
set_option maxRecDepth 100000 in
theorem mo_Row_compareWith : mOK m_Row_compareWith (605, 81, 604, 36, false) := ⟨rfl, by decide +kernel, by decide +kernel, by decide +kernel, by decide +kernel⟩
set_option maxRecDepth 100000 in
theorem mo_Row_differences : mOK m_Row_differences (636, 81, 635, 37, false) := ⟨rfl, by decide +kernel, by decide +kernel, by decide +kernel, by decide +kernel⟩
set_option maxRecDepth 100000 in
theorem mo_Row_shortestRepeated : mOK m_Row_shortestRepeated (593, 81, 592, 34, false) := ⟨rfl, by decide +kernel, by decide +kernel, by decide +kernel, by decide +kernel⟩
set_option maxRecDepth 100000 in
theorem mo_Row_repeats : mOK m_Row_repeats (597, 81, 596, 35, false) := ⟨rfl, by decide +kernel, by decide +kernel, by decide +kernel, by decide +kernel⟩
set_option maxRecDepth 100000 in
theorem mo_Row_lostByBending : mOK m_Row_lostByBending (576, 81, 575, 32, false) := ⟨rfl, by decide +kernel, by decide +kernel, by decide +kernel, by decide +kernel⟩
set_option maxRecDepth 100000 in
theorem mo_Row_isRingOf : mOK m_Row_isRingOf (572, 81, 571, 31, false) := ⟨rfl, by decide +kernel, by decide +kernel, by decide +kernel, by decide +kernel⟩
set_option maxRecDepth 100000 in
theorem mo_Row_isRingBegunAt : mOK m_Row_isRingBegunAt (580, 81, 579, 33, false) := ⟨rfl, by decide +kernel, by decide +kernel, by decide +kernel, by decide +kernel⟩
set_option maxRecDepth 100000 in
theorem mo_Text_init : mOK m_Text_init (105, 79, 104, 0, false) := ⟨rfl, by decide +kernel, by decide +kernel, by decide +kernel, by decide +kernel⟩
set_option maxRecDepth 100000 in
theorem mo_Text_append : mOK m_Text_append (283, 79, 282, 0, false) := ⟨rfl, by decide +kernel, by decide +kernel, by decide +kernel, by decide +kernel⟩
set_option maxRecDepth 100000 in
theorem mo_Text_empty : mOK m_Text_empty (291, 79, 290, 1, false) := ⟨rfl, by decide +kernel, by decide +kernel, by decide +kernel, by decide +kernel⟩
set_option maxRecDepth 100000 in
theorem mo_Text_isTurnLetter : mOK m_Text_isTurnLetter (302, 79, 301, 0, true) := ⟨rfl, by decide +kernel, by decide +kernel, by decide +kernel, by decide +kernel⟩
set_option maxRecDepth 100000 in
theorem mo_Text_fault : mOK m_Text_fault (299, 79, 298, 2, false) := ⟨rfl, by decide +kernel, by decide +kernel, by decide +kernel, by decide +kernel⟩
set_option maxRecDepth 100000 in
theorem mo_Text_tell : mOK m_Text_tell (391, 79, 390, 3, false) := ⟨rfl, by decide +kernel, by decide +kernel, by decide +kernel, by decide +kernel⟩
set_option maxRecDepth 100000 in
theorem mo_KN_init : mOK m_KN_init (97, 78, 96, 0, false) := ⟨rfl, by decide +kernel, by decide +kernel, by decide +kernel, by decide +kernel⟩
set_option maxRecDepth 100000 in
theorem mo_KN_type : mOK m_KN_type (276, 78, 274, 275, false) := ⟨rfl, by decide +kernel, by decide +kernel, by decide +kernel, by decide +kernel⟩
set_option maxRecDepth 100000 in
theorem mo_KN_clear : mOK m_KN_clear (287, 78, 285, 286, false) := ⟨rfl, by decide +kernel, by decide +kernel, by decide +kernel, by decide +kernel⟩
set_option maxRecDepth 100000 in
theorem mo_KN_camp : mOK m_KN_camp (295, 78, 293, 294, false) := ⟨rfl, by decide +kernel, by decide +kernel, by decide +kernel, by decide +kernel⟩
set_option maxRecDepth 100000 in
theorem mo_KN_name : mOK m_KN_name (435, 78, 433, 434, false) := ⟨rfl, by decide +kernel, by decide +kernel, by decide +kernel, by decide +kernel⟩
set_option maxRecDepth 100000 in
theorem mo_KN_contract : mOK m_KN_contract (455, 78, 453, 454, false) := ⟨rfl, by decide +kernel, by decide +kernel, by decide +kernel, by decide +kernel⟩
set_option maxRecDepth 100000 in
theorem mo_KN_now : mOK m_KN_now (459, 78, 457, 458, false) := ⟨rfl, by decide +kernel, by decide +kernel, by decide +kernel, by decide +kernel⟩
set_option maxRecDepth 100000 in
theorem mo_KN_ties : mOK m_KN_ties (489, 78, 487, 488, false) := ⟨rfl, by decide +kernel, by decide +kernel, by decide +kernel, by decide +kernel⟩
set_option maxRecDepth 100000 in
theorem mo_KN_loosens : mOK m_KN_loosens (514, 78, 512, 513, false) := ⟨rfl, by decide +kernel, by decide +kernel, by decide +kernel, by decide +kernel⟩
set_option maxRecDepth 100000 in
theorem mo_KN_bends : mOK m_KN_bends (523, 78, 521, 522, false) := ⟨rfl, by decide +kernel, by decide +kernel, by decide +kernel, by decide +kernel⟩
set_option maxRecDepth 100000 in
theorem mo_KN_unties : mOK m_KN_unties (541, 78, 539, 540, false) := ⟨rfl, by decide +kernel, by decide +kernel, by decide +kernel, by decide +kernel⟩
set_option maxRecDepth 100000 in
theorem mo_KN_adds : mOK m_KN_adds (546, 78, 544, 545, false) := ⟨rfl, by decide +kernel, by decide +kernel, by decide +kernel, by decide +kernel⟩
set_option maxRecDepth 100000 in
theorem mo_KN_tears : mOK m_KN_tears (551, 78, 549, 550, false) := ⟨rfl, by decide +kernel, by decide +kernel, by decide +kernel, by decide +kernel⟩
set_option maxRecDepth 100000 in
theorem mo_KN_undo : mOK m_KN_undo (555, 78, 553, 554, false) := ⟨rfl, by decide +kernel, by decide +kernel, by decide +kernel, by decide +kernel⟩
set_option maxRecDepth 100000 in
theorem mo_KN_alike : mOK m_KN_alike (563, 78, 561, 562, false) := ⟨rfl, by decide +kernel, by decide +kernel, by decide +kernel, by decide +kernel⟩
set_option maxRecDepth 100000 in
theorem mo_KN_ring : mOK m_KN_ring (568, 78, 566, 567, false) := ⟨rfl, by decide +kernel, by decide +kernel, by decide +kernel, by decide +kernel⟩
set_option maxRecDepth 100000 in
theorem mo_KN_way : mOK m_KN_way (584, 78, 582, 583, false) := ⟨rfl, by decide +kernel, by decide +kernel, by decide +kernel, by decide +kernel⟩
set_option maxRecDepth 100000 in
theorem mo_KN_root : mOK m_KN_root (589, 78, 587, 588, false) := ⟨rfl, by decide +kernel, by decide +kernel, by decide +kernel, by decide +kernel⟩
set_option maxRecDepth 100000 in
theorem mo_KN_order : mOK m_KN_order (601, 78, 599, 600, false) := ⟨rfl, by decide +kernel, by decide +kernel, by decide +kernel, by decide +kernel⟩
set_option maxRecDepth 100000 in
theorem mo_KN_cold : mOK m_KN_cold (612, 78, 610, 611, false) := ⟨rfl, by decide +kernel, by decide +kernel, by decide +kernel, by decide +kernel⟩
set_option maxRecDepth 100000 in
theorem mo_KN_mixed : mOK m_KN_mixed (632, 78, 630, 631, false) := ⟨rfl, by decide +kernel, by decide +kernel, by decide +kernel, by decide +kernel⟩
set_option maxRecDepth 100000 in
theorem mo_KN_newName : mOK m_KN_newName (640, 78, 638, 639, false) := ⟨rfl, by decide +kernel, by decide +kernel, by decide +kernel, by decide +kernel⟩
set_option maxRecDepth 100000 in
theorem mo_KN_pulls : mOK m_KN_pulls (667, 78, 665, 666, false) := ⟨rfl, by decide +kernel, by decide +kernel, by decide +kernel, by decide +kernel⟩
set_option maxRecDepth 100000 in
theorem mo_KN_lives : mOK m_KN_lives (683, 78, 681, 682, false) := ⟨rfl, by decide +kernel, by decide +kernel, by decide +kernel, by decide +kernel⟩
set_option maxRecDepth 100000 in
theorem mo_KN_next : mOK m_KN_next (707, 78, 705, 706, false) := ⟨rfl, by decide +kernel, by decide +kernel, by decide +kernel, by decide +kernel⟩
set_option maxRecDepth 100000 in
theorem mo_KN_porridge : mOK m_KN_porridge (715, 78, 713, 714, false) := ⟨rfl, by decide +kernel, by decide +kernel, by decide +kernel, by decide +kernel⟩
set_option maxRecDepth 100000 in
theorem mo_KN_share : mOK m_KN_share (728, 78, 726, 727, false) := ⟨rfl, by decide +kernel, by decide +kernel, by decide +kernel, by decide +kernel⟩
set_option maxRecDepth 100000 in
theorem mo_KN_rate : mOK m_KN_rate (732, 78, 730, 731, false) := ⟨rfl, by decide +kernel, by decide +kernel, by decide +kernel, by decide +kernel⟩
set_option maxRecDepth 100000 in
theorem mo_KN_keep : mOK m_KN_keep (766, 78, 764, 765, false) := ⟨rfl, by decide +kernel, by decide +kernel, by decide +kernel, by decide +kernel⟩
set_option maxRecDepth 100000 in
theorem mo_KN_back : mOK m_KN_back (771, 78, 769, 770, false) := ⟨rfl, by decide +kernel, by decide +kernel, by decide +kernel, by decide +kernel⟩
set_option maxRecDepth 100000 in
theorem mo_KN_count : mOK m_KN_count (775, 78, 773, 774, false) := ⟨rfl, by decide +kernel, by decide +kernel, by decide +kernel, by decide +kernel⟩
set_option maxRecDepth 100000 in
theorem mo_KN_trace : mOK m_KN_trace (779, 78, 777, 778, false) := ⟨rfl, by decide +kernel, by decide +kernel, by decide +kernel, by decide +kernel⟩
set_option maxRecDepth 100000 in
theorem mo_KN_asHerder : mOK m_KN_asHerder (737, 78, 736, 48, false) := ⟨rfl, by decide +kernel, by decide +kernel, by decide +kernel, by decide +kernel⟩
set_option maxRecDepth 100000 in
theorem mo_KN_asChief : mOK m_KN_asChief (741, 78, 740, 49, false) := ⟨rfl, by decide +kernel, by decide +kernel, by decide +kernel, by decide +kernel⟩
set_option maxRecDepth 100000 in
theorem mo_KN_asLiar : mOK m_KN_asLiar (746, 78, 745, 50, false) := ⟨rfl, by decide +kernel, by decide +kernel, by decide +kernel, by decide +kernel⟩
set_option maxRecDepth 100000 in
theorem mo_KN_asFist : mOK m_KN_asFist (751, 78, 750, 51, false) := ⟨rfl, by decide +kernel, by decide +kernel, by decide +kernel, by decide +kernel⟩
set_option maxRecDepth 100000 in
theorem mo_KN_asThief : mOK m_KN_asThief (756, 78, 755, 52, false) := ⟨rfl, by decide +kernel, by decide +kernel, by decide +kernel, by decide +kernel⟩
set_option maxRecDepth 100000 in
theorem mo_KN_asWidow : mOK m_KN_asWidow (761, 78, 760, 53, false) := ⟨rfl, by decide +kernel, by decide +kernel, by decide +kernel, by decide +kernel⟩
set_option maxRecDepth 100000 in
theorem mo_KN_isWithin : mOK m_KN_isWithin (279, 78, 278, 0, true) := ⟨rfl, by decide +kernel, by decide +kernel, by decide +kernel, by decide +kernel⟩
set_option maxRecDepth 100000 in
theorem mo_KN_isTurn : mOK m_KN_isTurn (492, 78, 491, 0, true) := ⟨rfl, by decide +kernel, by decide +kernel, by decide +kernel, by decide +kernel⟩
set_option maxRecDepth 100000 in
theorem mo_KN_undoing : mOK m_KN_undoing (418, 78, 417, 0, true) := ⟨rfl, by decide +kernel, by decide +kernel, by decide +kernel, by decide +kernel⟩
set_option maxRecDepth 100000 in
theorem mo_KN_lengthOrTurn : mOK m_KN_lengthOrTurn (447, 78, 446, 0, true) := ⟨rfl, by decide +kernel, by decide +kernel, by decide +kernel, by decide +kernel⟩
set_option maxRecDepth 100000 in
theorem mo_KN_takenFor : mOK m_KN_takenFor (625, 78, 624, 0, true) := ⟨rfl, by decide +kernel, by decide +kernel, by decide +kernel, by decide +kernel⟩
set_option maxRecDepth 100000 in
theorem mo_KN_power : mOK m_KN_power (628, 78, 627, 0, true) := ⟨rfl, by decide +kernel, by decide +kernel, by decide +kernel, by decide +kernel⟩
set_option maxRecDepth 100000 in
theorem mo_KN_leastTerms : mOK m_KN_leastTerms (616, 78, 615, 0, true) := ⟨rfl, by decide +kernel, by decide +kernel, by decide +kernel, by decide +kernel⟩
set_option maxRecDepth 100000 in
theorem mo_KN_commonDivisor : mOK m_KN_commonDivisor (619, 78, 618, 0, true) := ⟨rfl, by decide +kernel, by decide +kernel, by decide +kernel, by decide +kernel⟩
set_option maxRecDepth 100000 in
theorem mo_KN_mostPairs : mOK m_KN_mostPairs (672, 78, 671, 42, false) := ⟨rfl, by decide +kernel, by decide +kernel, by decide +kernel, by decide +kernel⟩
set_option maxRecDepth 100000 in
theorem mo_KN_mostPairsWithin : mOK m_KN_mostPairsWithin (677, 78, 676, 43, false) := ⟨rfl, by decide +kernel, by decide +kernel, by decide +kernel, by decide +kernel⟩
set_option maxRecDepth 100000 in
theorem mo_MD_init : mOK m_MD_init (784, 86, 783, 0, false) := ⟨rfl, by decide +kernel, by decide +kernel, by decide +kernel, by decide +kernel⟩
set_option maxRecDepth 100000 in
theorem mo_MD_in : mOK m_MD_in (854, 86, 853, 0, true) := ⟨rfl, by decide +kernel, by decide +kernel, by decide +kernel, by decide +kernel⟩
set_option maxRecDepth 100000 in
theorem mo_MD_isTwo : mOK m_MD_isTwo (1014, 86, 1013, 0, true) := ⟨rfl, by decide +kernel, by decide +kernel, by decide +kernel, by decide +kernel⟩
set_option maxRecDepth 100000 in
theorem mo_MD_isTurn : mOK m_MD_isTurn (929, 86, 928, 0, true) := ⟨rfl, by decide +kernel, by decide +kernel, by decide +kernel, by decide +kernel⟩
set_option maxRecDepth 100000 in
theorem mo_MD_bits : mOK m_MD_bits (1059, 86, 1058, 0, true) := ⟨rfl, by decide +kernel, by decide +kernel, by decide +kernel, by decide +kernel⟩
set_option maxRecDepth 100000 in
theorem mo_MD_tie : mOK m_MD_tie (877, 86, 876, 56, false) := ⟨rfl, by decide +kernel, by decide +kernel, by decide +kernel, by decide +kernel⟩
set_option maxRecDepth 100000 in
theorem mo_MD_tieRow : mOK m_MD_tieRow (938, 86, 937, 65, false) := ⟨rfl, by decide +kernel, by decide +kernel, by decide +kernel, by decide +kernel⟩
set_option maxRecDepth 100000 in
theorem mo_MD_tieName : mOK m_MD_tieName (934, 86, 933, 64, false) := ⟨rfl, by decide +kernel, by decide +kernel, by decide +kernel, by decide +kernel⟩
set_option maxRecDepth 100000 in
theorem mo_MD_type : mOK m_MD_type (850, 86, 848, 849, false) := ⟨rfl, by decide +kernel, by decide +kernel, by decide +kernel, by decide +kernel⟩
set_option maxRecDepth 100000 in
theorem mo_MD_clear : mOK m_MD_clear (858, 86, 856, 857, false) := ⟨rfl, by decide +kernel, by decide +kernel, by decide +kernel, by decide +kernel⟩
set_option maxRecDepth 100000 in
theorem mo_MD_turnOf : mOK m_MD_turnOf (873, 86, 872, 0, true) := ⟨rfl, by decide +kernel, by decide +kernel, by decide +kernel, by decide +kernel⟩
set_option maxRecDepth 100000 in
theorem mo_MD_ahead : mOK m_MD_ahead (866, 86, 865, 54, false) := ⟨rfl, by decide +kernel, by decide +kernel, by decide +kernel, by decide +kernel⟩
set_option maxRecDepth 100000 in
theorem mo_MD_takesHerder : mOK m_MD_takesHerder (870, 86, 869, 55, false) := ⟨rfl, by decide +kernel, by decide +kernel, by decide +kernel, by decide +kernel⟩
set_option maxRecDepth 100000 in
theorem mo_MD_camp : mOK m_MD_camp (862, 86, 860, 861, false) := ⟨rfl, by decide +kernel, by decide +kernel, by decide +kernel, by decide +kernel⟩
set_option maxRecDepth 100000 in
theorem mo_MD_copies : mOK m_MD_copies (880, 86, 879, 0, true) := ⟨rfl, by decide +kernel, by decide +kernel, by decide +kernel, by decide +kernel⟩
set_option maxRecDepth 100000 in
theorem mo_MD_isHerder : mOK m_MD_isHerder (888, 86, 887, 57, false) := ⟨rfl, by decide +kernel, by decide +kernel, by decide +kernel, by decide +kernel⟩
set_option maxRecDepth 100000 in
theorem mo_MD_name : mOK m_MD_name (884, 86, 882, 883, false) := ⟨rfl, by decide +kernel, by decide +kernel, by decide +kernel, by decide +kernel⟩
set_option maxRecDepth 100000 in
theorem mo_MD_contract : mOK m_MD_contract (893, 86, 891, 892, false) := ⟨rfl, by decide +kernel, by decide +kernel, by decide +kernel, by decide +kernel⟩
set_option maxRecDepth 100000 in
theorem mo_MD_turnsOfAll : mOK m_MD_turnsOfAll (922, 86, 921, 63, false) := ⟨rfl, by decide +kernel, by decide +kernel, by decide +kernel, by decide +kernel⟩
set_option maxRecDepth 100000 in
theorem mo_MD_namesThere : mOK m_MD_namesThere (901, 86, 900, 58, false) := ⟨rfl, by decide +kernel, by decide +kernel, by decide +kernel, by decide +kernel⟩
set_option maxRecDepth 100000 in
theorem mo_MD_now : mOK m_MD_now (897, 86, 895, 896, false) := ⟨rfl, by decide +kernel, by decide +kernel, by decide +kernel, by decide +kernel⟩
set_option maxRecDepth 100000 in
theorem mo_MD_remember : mOK m_MD_remember (942, 86, 941, 66, false) := ⟨rfl, by decide +kernel, by decide +kernel, by decide +kernel, by decide +kernel⟩
set_option maxRecDepth 100000 in
theorem mo_MD_names : mOK m_MD_names (946, 86, 945, 67, false) := ⟨rfl, by decide +kernel, by decide +kernel, by decide +kernel, by decide +kernel⟩
set_option maxRecDepth 100000 in
theorem mo_MD_ties : mOK m_MD_ties (926, 86, 924, 925, false) := ⟨rfl, by decide +kernel, by decide +kernel, by decide +kernel, by decide +kernel⟩
set_option maxRecDepth 100000 in
theorem mo_MD_loosens : mOK m_MD_loosens (950, 86, 948, 949, false) := ⟨rfl, by decide +kernel, by decide +kernel, by decide +kernel, by decide +kernel⟩
set_option maxRecDepth 100000 in
theorem mo_MD_bends : mOK m_MD_bends (954, 86, 952, 953, false) := ⟨rfl, by decide +kernel, by decide +kernel, by decide +kernel, by decide +kernel⟩
set_option maxRecDepth 100000 in
theorem mo_MD_unties : mOK m_MD_unties (958, 86, 956, 957, false) := ⟨rfl, by decide +kernel, by decide +kernel, by decide +kernel, by decide +kernel⟩
set_option maxRecDepth 100000 in
theorem mo_MD_adds : mOK m_MD_adds (962, 86, 960, 961, false) := ⟨rfl, by decide +kernel, by decide +kernel, by decide +kernel, by decide +kernel⟩
set_option maxRecDepth 100000 in
theorem mo_MD_tears : mOK m_MD_tears (966, 86, 964, 965, false) := ⟨rfl, by decide +kernel, by decide +kernel, by decide +kernel, by decide +kernel⟩
set_option maxRecDepth 100000 in
theorem mo_MD_undo : mOK m_MD_undo (970, 86, 968, 969, false) := ⟨rfl, by decide +kernel, by decide +kernel, by decide +kernel, by decide +kernel⟩
set_option maxRecDepth 100000 in
theorem mo_MD_turnAt : mOK m_MD_turnAt (918, 86, 917, 62, false) := ⟨rfl, by decide +kernel, by decide +kernel, by decide +kernel, by decide +kernel⟩
set_option maxRecDepth 100000 in
theorem mo_MD_unlike : mOK m_MD_unlike (913, 86, 912, 61, false) := ⟨rfl, by decide +kernel, by decide +kernel, by decide +kernel, by decide +kernel⟩
set_option maxRecDepth 100000 in
theorem mo_MD_nearTo : mOK m_MD_nearTo (909, 86, 908, 60, false) := ⟨rfl, by decide +kernel, by decide +kernel, by decide +kernel, by decide +kernel⟩
set_option maxRecDepth 100000 in
theorem mo_MD_alikeOf : mOK m_MD_alikeOf (905, 86, 904, 59, false) := ⟨rfl, by decide +kernel, by decide +kernel, by decide +kernel, by decide +kernel⟩
set_option maxRecDepth 100000 in
theorem mo_MD_alike : mOK m_MD_alike (974, 86, 972, 973, false) := ⟨rfl, by decide +kernel, by decide +kernel, by decide +kernel, by decide +kernel⟩
set_option maxRecDepth 100000 in
theorem mo_MD_ends : mOK m_MD_ends (986, 86, 985, 69, false) := ⟨rfl, by decide +kernel, by decide +kernel, by decide +kernel, by decide +kernel⟩
set_option maxRecDepth 100000 in
theorem mo_MD_isRing : mOK m_MD_isRing (982, 86, 981, 68, false) := ⟨rfl, by decide +kernel, by decide +kernel, by decide +kernel, by decide +kernel⟩
set_option maxRecDepth 100000 in
theorem mo_MD_ring : mOK m_MD_ring (978, 86, 976, 977, false) := ⟨rfl, by decide +kernel, by decide +kernel, by decide +kernel, by decide +kernel⟩
set_option maxRecDepth 100000 in
theorem mo_MD_way : mOK m_MD_way (990, 86, 988, 989, false) := ⟨rfl, by decide +kernel, by decide +kernel, by decide +kernel, by decide +kernel⟩
set_option maxRecDepth 100000 in
theorem mo_MD_rootOf : mOK m_MD_rootOf (998, 86, 997, 70, false) := ⟨rfl, by decide +kernel, by decide +kernel, by decide +kernel, by decide +kernel⟩
set_option maxRecDepth 100000 in
theorem mo_MD_root : mOK m_MD_root (994, 86, 992, 993, false) := ⟨rfl, by decide +kernel, by decide +kernel, by decide +kernel, by decide +kernel⟩
set_option maxRecDepth 100000 in
theorem mo_MD_isAhead : mOK m_MD_isAhead (1006, 86, 1005, 71, false) := ⟨rfl, by decide +kernel, by decide +kernel, by decide +kernel, by decide +kernel⟩
set_option maxRecDepth 100000 in
theorem mo_MD_order : mOK m_MD_order (1002, 86, 1000, 1001, false) := ⟨rfl, by decide +kernel, by decide +kernel, by decide +kernel, by decide +kernel⟩
set_option maxRecDepth 100000 in
theorem mo_MD_least : mOK m_MD_least (1017, 86, 1016, 0, true) := ⟨rfl, by decide +kernel, by decide +kernel, by decide +kernel, by decide +kernel⟩
set_option maxRecDepth 100000 in
theorem mo_MD_cold : mOK m_MD_cold (1010, 86, 1008, 1009, false) := ⟨rfl, by decide +kernel, by decide +kernel, by decide +kernel, by decide +kernel⟩
set_option maxRecDepth 100000 in
theorem mo_MD_mixed : mOK m_MD_mixed (1021, 86, 1019, 1020, false) := ⟨rfl, by decide +kernel, by decide +kernel, by decide +kernel, by decide +kernel⟩
set_option maxRecDepth 100000 in
theorem mo_MD_isNew : mOK m_MD_isNew (1031, 86, 1030, 72, false) := ⟨rfl, by decide +kernel, by decide +kernel, by decide +kernel, by decide +kernel⟩
set_option maxRecDepth 100000 in
theorem mo_MD_newName : mOK m_MD_newName (1026, 86, 1024, 1025, false) := ⟨rfl, by decide +kernel, by decide +kernel, by decide +kernel, by decide +kernel⟩
set_option maxRecDepth 100000 in
theorem mo_MD_mend : mOK m_MD_mend (1044, 86, 1043, 74, false) := ⟨rfl, by decide +kernel, by decide +kernel, by decide +kernel, by decide +kernel⟩
set_option maxRecDepth 100000 in
theorem mo_MD_tieContract : mOK m_MD_tieContract (1040, 86, 1039, 73, false) := ⟨rfl, by decide +kernel, by decide +kernel, by decide +kernel, by decide +kernel⟩
set_option maxRecDepth 100000 in
theorem mo_MD_pulls : mOK m_MD_pulls (1035, 86, 1033, 1034, false) := ⟨rfl, by decide +kernel, by decide +kernel, by decide +kernel, by decide +kernel⟩
set_option maxRecDepth 100000 in
theorem mo_MD_isLife : mOK m_MD_isLife (1056, 86, 1055, 76, false) := ⟨rfl, by decide +kernel, by decide +kernel, by decide +kernel, by decide +kernel⟩
set_option maxRecDepth 100000 in
theorem mo_MD_layContract : mOK m_MD_layContract (1052, 86, 1051, 75, false) := ⟨rfl, by decide +kernel, by decide +kernel, by decide +kernel, by decide +kernel⟩
set_option maxRecDepth 100000 in
theorem mo_MD_lives : mOK m_MD_lives (1048, 86, 1046, 1047, false) := ⟨rfl, by decide +kernel, by decide +kernel, by decide +kernel, by decide +kernel⟩
set_option maxRecDepth 100000 in
theorem mo_MD_next : mOK m_MD_next (1063, 86, 1061, 1062, false) := ⟨rfl, by decide +kernel, by decide +kernel, by decide +kernel, by decide +kernel⟩
set_option maxRecDepth 100000 in
theorem mo_MD_porridge : mOK m_MD_porridge (1067, 86, 1065, 1066, false) := ⟨rfl, by decide +kernel, by decide +kernel, by decide +kernel, by decide +kernel⟩
set_option maxRecDepth 100000 in
theorem mo_MD_share : mOK m_MD_share (1072, 86, 1070, 1071, false) := ⟨rfl, by decide +kernel, by decide +kernel, by decide +kernel, by decide +kernel⟩
set_option maxRecDepth 100000 in
theorem mo_MD_rate : mOK m_MD_rate (1077, 86, 1075, 1076, false) := ⟨rfl, by decide +kernel, by decide +kernel, by decide +kernel, by decide +kernel⟩
set_option maxRecDepth 100000 in
theorem mo_MD_keep : mOK m_MD_keep (1086, 86, 1084, 1085, false) := ⟨rfl, by decide +kernel, by decide +kernel, by decide +kernel, by decide +kernel⟩
set_option maxRecDepth 100000 in
theorem mo_MD_back : mOK m_MD_back (1090, 86, 1088, 1089, false) := ⟨rfl, by decide +kernel, by decide +kernel, by decide +kernel, by decide +kernel⟩
set_option maxRecDepth 100000 in
theorem mo_MD_count : mOK m_MD_count (1094, 86, 1092, 1093, false) := ⟨rfl, by decide +kernel, by decide +kernel, by decide +kernel, by decide +kernel⟩
set_option maxRecDepth 100000 in
theorem mo_MD_trace : mOK m_MD_trace (1098, 86, 1096, 1097, false) := ⟨rfl, by decide +kernel, by decide +kernel, by decide +kernel, by decide +kernel⟩
set_option maxRecDepth 100000 in
theorem mo_JInt_compare : mOK m_JInt_compare (608, 92, 607, 0, true) := ⟨rfl, by decide +kernel, by decide +kernel, by decide +kernel, by decide +kernel⟩
set_option maxRecDepth 100000 in
theorem mo_JInt_bitCount : mOK m_JInt_bitCount (718, 92, 717, 0, true) := ⟨rfl, by decide +kernel, by decide +kernel, by decide +kernel, by decide +kernel⟩
set_option maxRecDepth 100000 in
theorem mo_JStr_length : mOK m_JStr_length (321, 87, 319, 320, false) := ⟨rfl, by decide +kernel, by decide +kernel, by decide +kernel, by decide +kernel⟩
set_option maxRecDepth 100000 in
theorem mo_JStr_indexOf : mOK m_JStr_indexOf (307, 87, 305, 306, false) := ⟨rfl, by decide +kernel, by decide +kernel, by decide +kernel, by decide +kernel⟩
set_option maxRecDepth 100000 in
theorem mo_JStr_indexOf2 : mOK m_JStr_indexOf2 (311, 87, 309, 310, false) := ⟨rfl, by decide +kernel, by decide +kernel, by decide +kernel, by decide +kernel⟩
set_option maxRecDepth 100000 in
theorem mo_JStr_coder : mOK m_JStr_coder (325, 87, 323, 324, false) := ⟨rfl, by decide +kernel, by decide +kernel, by decide +kernel, by decide +kernel⟩
set_option maxRecDepth 100000 in
theorem mo_JStr_isLatin1 : mOK m_JStr_isLatin1 (315, 87, 313, 314, false) := ⟨rfl, by decide +kernel, by decide +kernel, by decide +kernel, by decide +kernel⟩
set_option maxRecDepth 100000 in
theorem mo_JLat_canEncode : mOK m_JLat_canEncode (331, 88, 330, 0, true) := ⟨rfl, by decide +kernel, by decide +kernel, by decide +kernel, by decide +kernel⟩
set_option maxRecDepth 100000 in
theorem mo_JLat_indexOf : mOK m_JLat_indexOf (328, 88, 327, 0, true) := ⟨rfl, by decide +kernel, by decide +kernel, by decide +kernel, by decide +kernel⟩
set_option maxRecDepth 100000 in
theorem mo_JLat_indexOfChar : mOK m_JLat_indexOfChar (338, 88, 337, 0, true) := ⟨rfl, by decide +kernel, by decide +kernel, by decide +kernel, by decide +kernel⟩
def cOK (o : Nat) (q : Nat × Nat × Nat × Nat × Nat × Nat) : Prop := (q.2.1 = 3 ∧ lw_tbl[q.2.2.2.2.2]? = some (.methodLink (nm o) q.1 Lib.objectInit)) ∨ (q.2.1 = 4 ∧ lw_tbl[q.2.2.2.2.2]? = some (.methodLink (nm o) q.1 Lib.Math.max.name)) ∨ (q.2.1 = 5 ∧ lw_tbl[q.2.2.2.2.2]? = some (.methodLink (nm o) q.1 Lib.Math.min.name)) ∨ (q.2.1 = 6 ∧ lw_tbl[q.2.2.2.2.2]? = some (.methodLink (nm o) q.1 Lib.Math.abs.name)) ∨ (q.2.1 = 7 ∧ lw_tbl[q.2.2.2.2.2]? = some (.methodLink (nm o) q.1 Lib.MathLoose.max_long.x)) ∨
  (q.2.1 < 3 ∧ (q.2.2.1 < 174 ∧ (mt.getD q.2.2.1 m_LAW_law).2.1.name ≠ "law") ∧ (parseMethodDescriptor (mt.getD q.2.2.1 m_LAW_law).2.1.desc).map (fun d => d.parameters.length) = some q.2.2.2.1 ∧ (q.2.1 = 2 ↔ (mt.getD q.2.2.1 m_LAW_law).2.1.name = "<init>") ∧ ((q.2.1 = 1 ↔ isSt (mt.getD q.2.2.1 m_LAW_law).2.1 = true) ∧ (q.2.1 = 0 → ((mt.getD q.2.2.1 m_LAW_law).1 < 8 ∨ (mt.getD q.2.2.1 m_LAW_law).1 = 11)) ∧ (q.2.1 = 2 → (mt.getD q.2.2.1 m_LAW_law).2.2.2.2.1 = none)) ∧ ((q.2.2.2.2.1 = 0 ∧ lw_tbl[q.2.2.2.2.2]? = some (.methodLink (nm o) q.1 (mt.getD q.2.2.1 m_LAW_law).2.1)) ∨ (q.2.2.2.2.1 = 1 ∧ lw_tbl[q.2.2.2.2.2]? = some (.methodLinkNest (nm o) q.1 (mt.getD q.2.2.1 m_LAW_law).2.1 "KnotNames"))))
set_option maxRecDepth 100000 in
theorem cOK_0 : ∀ q ∈ cR_0, cOK 0 q := by
  unfold cOK
  decide +kernel
set_option maxRecDepth 100000 in
theorem cOK_1 : ∀ q ∈ cR_1, cOK 1 q := by
  unfold cOK
  decide +kernel
set_option maxRecDepth 100000 in
theorem cOK_2 : ∀ q ∈ cR_2, cOK 2 q := by
  unfold cOK
  decide +kernel
set_option maxRecDepth 100000 in
theorem cOK_3 : ∀ q ∈ cR_3, cOK 3 q := by
  unfold cOK
  decide +kernel
set_option maxRecDepth 100000 in
theorem cOK_4 : ∀ q ∈ cR_4, cOK 4 q := by
  unfold cOK
  decide +kernel
set_option maxRecDepth 100000 in
theorem cOK_5 : ∀ q ∈ cR_5, cOK 5 q := by
  unfold cOK
  decide +kernel
set_option maxRecDepth 100000 in
theorem cOK_6 : ∀ q ∈ cR_6, cOK 6 q := by
  unfold cOK
  decide +kernel
set_option maxRecDepth 100000 in
theorem cOK_7 : ∀ q ∈ cR_7, cOK 7 q := by
  unfold cOK
  decide +kernel
set_option maxRecDepth 100000 in
theorem cOK_8 : ∀ q ∈ cR_8, cOK 8 q := by
  unfold cOK
  decide +kernel
set_option maxRecDepth 100000 in
theorem cOK_9 : ∀ q ∈ cR_9, cOK 9 q := by
  unfold cOK
  decide +kernel
set_option maxRecDepth 100000 in
theorem cOK_10 : ∀ q ∈ cR_10, cOK 10 q := by
  unfold cOK
  decide +kernel
set_option maxRecDepth 100000 in
theorem cOK_11 : ∀ q ∈ cR_11, cOK 11 q := by
  unfold cOK
  decide +kernel
set_option maxRecDepth 100000 in
theorem cOK_12 : ∀ q ∈ cR_12, cOK 12 q := by
  unfold cOK
  decide +kernel
set_option maxRecDepth 100000 in
theorem cOK_13 : ∀ q ∈ cR_13, cOK 13 q := by
  unfold cOK
  decide +kernel
theorem cR_ok {o : Nat} {q : Nat × Nat × Nat × Nat × Nat × Nat} (h : q ∈ cRs.getD o []) : cOK o q := by
  by_cases ho : o < 14
  · rcases (show o = 0 ∨ o = 1 ∨ o = 2 ∨ o = 3 ∨ o = 4 ∨ o = 5 ∨ o = 6 ∨ o = 7 ∨ o = 8 ∨ o = 9 ∨ o = 10 ∨ o = 11 ∨ o = 12 ∨ o = 13 by omega) with rfl | rfl | rfl | rfl | rfl | rfl | rfl | rfl | rfl | rfl | rfl | rfl | rfl | rfl
    · exact cOK_0 q h
    · exact cOK_1 q h
    · exact cOK_2 q h
    · exact cOK_3 q h
    · exact cOK_4 q h
    · exact cOK_5 q h
    · exact cOK_6 q h
    · exact cOK_7 q h
    · exact cOK_8 q h
    · exact cOK_9 q h
    · exact cOK_10 q h
    · exact cOK_11 q h
    · exact cOK_12 q h
    · exact cOK_13 q h
  · have : cRs.getD o [] = [] := by
      rw [List.getD_eq_getElem?_getD, List.getElem?_eq_none (by show cRs.length ≤ o; exact Nat.le_trans (by decide) (Nat.not_lt.mp ho))]
      rfl
    rw [this] at h
    cases h
set_option maxRecDepth 100000 in
theorem objW : lw_tbl[99]? = some (.instanceMethod Lib.objectInit) ∧ lw_tbl[100]? = some (.code Lib.objectInit ⟨#[0xb1]⟩ 1 none) := by decide +kernel
set_option maxRecDepth 100000 in
theorem mathI : lw_tbl[82]? = some (.initialized "java/lang/Math") := by decide +kernel
set_option maxRecDepth 100000 in
theorem mathW4 : lw_tbl[130]? = some (.static Lib.Math.max.name) ∧ lw_tbl[131]? = some (.code Lib.Math.max.name Lib.Math.max.code 2 (some .int)) := by decide +kernel
set_option maxRecDepth 100000 in
theorem mathW5 : lw_tbl[334]? = some (.static Lib.Math.min.name) ∧ lw_tbl[335]? = some (.code Lib.Math.min.name Lib.Math.min.code 2 (some .int)) := by decide +kernel
set_option maxRecDepth 100000 in
theorem mathW6 : lw_tbl[723]? = some (.static Lib.Math.abs.name) ∧ lw_tbl[724]? = some (.code Lib.Math.abs.name Lib.Math.abs.code 1 (some .int)) := by decide +kernel
set_option maxRecDepth 100000 in
theorem mathW7 : lw_tbl[621]? = some (.static Lib.MathLoose.max_long.x) ∧ lw_tbl[622]? = some (.code Lib.MathLoose.max_long.x Lib.MathLoose.max_long.code 4 (some .long)) := by decide +kernel
def lOK (q : Nat × Instr × Nat) : Bool := match lenI q.2.1 with
  | some k => k == q.2.2
  | none => true
def kOK (m : MT) : Prop := (∀ q ∈ m.2.2.2.2.2.2.1, decode m.2.2.1 q.1 = .ok (q.2.1, q.2.2)) ∧ ∀ q ∈ m.2.2.2.2.2.2.1, lOK q = true
set_option maxRecDepth 100000 in
theorem kk_Camp_init : kOK m_Camp_init := ⟨kc_Camp_init, by decide +kernel⟩
set_option maxRecDepth 100000 in
theorem kk_Camp_has : kOK m_Camp_has := ⟨kc_Camp_has, by decide +kernel⟩
set_option maxRecDepth 100000 in
theorem kk_Camp_nameOf : kOK m_Camp_nameOf := ⟨kc_Camp_nameOf, by decide +kernel⟩
set_option maxRecDepth 100000 in
theorem kk_Camp_empty : kOK m_Camp_empty := ⟨kc_Camp_empty, by decide +kernel⟩
set_option maxRecDepth 100000 in
theorem kk_Camp_addHerder : kOK m_Camp_addHerder := ⟨kc_Camp_addHerder, by decide +kernel⟩
set_option maxRecDepth 100000 in
theorem kk_Camp_tieLastHerder : kOK m_Camp_tieLastHerder := ⟨kc_Camp_tieLastHerder, by decide +kernel⟩
set_option maxRecDepth 100000 in
theorem kk_Camp_become : kOK m_Camp_become := ⟨kc_Camp_become, by decide +kernel⟩
set_option maxRecDepth 100000 in
theorem kk_Camp_turns : kOK m_Camp_turns := ⟨kc_Camp_turns, by decide +kernel⟩
set_option maxRecDepth 100000 in
theorem kk_Camp_named : kOK m_Camp_named := ⟨kc_Camp_named, by decide +kernel⟩
set_option maxRecDepth 100000 in
theorem kk_Camp_calledLike : kOK m_Camp_calledLike := ⟨kc_Camp_calledLike, by decide +kernel⟩
set_option maxRecDepth 100000 in
theorem kk_Camp_unlikeNames : kOK m_Camp_unlikeNames := ⟨kc_Camp_unlikeNames, by decide +kernel⟩
set_option maxRecDepth 100000 in
theorem kk_Lives_init : kOK m_Lives_init := ⟨kc_Lives_init, by decide +kernel⟩
set_option maxRecDepth 100000 in
theorem kk_Lives_readBack : kOK m_Lives_readBack := ⟨kc_Lives_readBack, by decide +kernel⟩
set_option maxRecDepth 100000 in
theorem kk_Lives_seek : kOK m_Lives_seek := ⟨kc_Lives_seek, by decide +kernel⟩
set_option maxRecDepth 100000 in
theorem kk_Lives_note : kOK m_Lives_note := ⟨kc_Lives_note, by decide +kernel⟩
set_option maxRecDepth 100000 in
theorem kk_Lives_inMost : kOK m_Lives_inMost := ⟨kc_Lives_inMost, by decide +kernel⟩
set_option maxRecDepth 100000 in
theorem kk_NewN_init : kOK m_NewN_init := ⟨kc_NewN_init, by decide +kernel⟩
set_option maxRecDepth 100000 in
theorem kk_NewN_find : kOK m_NewN_find := ⟨kc_NewN_find, by decide +kernel⟩
set_option maxRecDepth 100000 in
theorem kk_NewN_spell : kOK m_NewN_spell := ⟨kc_NewN_spell, by decide +kernel⟩
set_option maxRecDepth 100000 in
theorem kk_NewN_isFar : kOK m_NewN_isFar := ⟨kc_NewN_isFar, by decide +kernel⟩
set_option maxRecDepth 100000 in
theorem kk_Past_init : kOK m_Past_init := ⟨kc_Past_init, by decide +kernel⟩
set_option maxRecDepth 100000 in
theorem kk_Past_remember : kOK m_Past_remember := ⟨kc_Past_remember, by decide +kernel⟩
set_option maxRecDepth 100000 in
theorem kk_Past_takeBack : kOK m_Past_takeBack := ⟨kc_Past_takeBack, by decide +kernel⟩
set_option maxRecDepth 100000 in
theorem kk_Past_forget : kOK m_Past_forget := ⟨kc_Past_forget, by decide +kernel⟩
set_option maxRecDepth 100000 in
theorem kk_Row_init : kOK m_Row_init := ⟨kc_Row_init, by decide +kernel⟩
set_option maxRecDepth 100000 in
theorem kk_Row_at : kOK m_Row_at := ⟨kc_Row_at, by decide +kernel⟩
set_option maxRecDepth 100000 in
theorem kk_Row_last : kOK m_Row_last := ⟨kc_Row_last, by decide +kernel⟩
set_option maxRecDepth 100000 in
theorem kk_Row_empty : kOK m_Row_empty := ⟨kc_Row_empty, by decide +kernel⟩
set_option maxRecDepth 100000 in
theorem kk_Row_append : kOK m_Row_append := ⟨kc_Row_append, by decide +kernel⟩
set_option maxRecDepth 100000 in
theorem kk_Row_dropLast : kOK m_Row_dropLast := ⟨kc_Row_dropLast, by decide +kernel⟩
set_option maxRecDepth 100000 in
theorem kk_Row_endsUndoing : kOK m_Row_endsUndoing := ⟨kc_Row_endsUndoing, by decide +kernel⟩
set_option maxRecDepth 100000 in
theorem kk_Row_takesTight : kOK m_Row_takesTight := ⟨kc_Row_takesTight, by decide +kernel⟩
set_option maxRecDepth 100000 in
theorem kk_Row_appendTight : kOK m_Row_appendTight := ⟨kc_Row_appendTight, by decide +kernel⟩
set_option maxRecDepth 100000 in
theorem kk_Row_appendAllTight : kOK m_Row_appendAllTight := ⟨kc_Row_appendAllTight, by decide +kernel⟩
set_option maxRecDepth 100000 in
theorem kk_Row_appendAllUndoing : kOK m_Row_appendAllUndoing := ⟨kc_Row_appendAllUndoing, by decide +kernel⟩
set_option maxRecDepth 100000 in
theorem kk_Row_become : kOK m_Row_become := ⟨kc_Row_become, by decide +kernel⟩
set_option maxRecDepth 100000 in
theorem kk_Row_becomeTight : kOK m_Row_becomeTight := ⟨kc_Row_becomeTight, by decide +kernel⟩
set_option maxRecDepth 100000 in
theorem kk_Row_becomeJoined : kOK m_Row_becomeJoined := ⟨kc_Row_becomeJoined, by decide +kernel⟩
set_option maxRecDepth 100000 in
theorem kk_Row_isTight : kOK m_Row_isTight := ⟨kc_Row_isTight, by decide +kernel⟩
set_option maxRecDepth 100000 in
theorem kk_Row_commonStart : kOK m_Row_commonStart := ⟨kc_Row_commonStart, by decide +kernel⟩
set_option maxRecDepth 100000 in
theorem kk_Row_isLike : kOK m_Row_isLike := ⟨kc_Row_isLike, by decide +kernel⟩
set_option maxRecDepth 100000 in
theorem kk_Row_compareWith : kOK m_Row_compareWith := ⟨kc_Row_compareWith, by decide +kernel⟩
set_option maxRecDepth 100000 in
theorem kk_Row_differences : kOK m_Row_differences := ⟨kc_Row_differences, by decide +kernel⟩
set_option maxRecDepth 100000 in
theorem kk_Row_shortestRepeated : kOK m_Row_shortestRepeated := ⟨kc_Row_shortestRepeated, by decide +kernel⟩
set_option maxRecDepth 100000 in
theorem kk_Row_repeats : kOK m_Row_repeats := ⟨kc_Row_repeats, by decide +kernel⟩
set_option maxRecDepth 100000 in
theorem kk_Row_lostByBending : kOK m_Row_lostByBending := ⟨kc_Row_lostByBending, by decide +kernel⟩
set_option maxRecDepth 100000 in
theorem kk_Row_isRingOf : kOK m_Row_isRingOf := ⟨kc_Row_isRingOf, by decide +kernel⟩
set_option maxRecDepth 100000 in
theorem kk_Row_isRingBegunAt : kOK m_Row_isRingBegunAt := ⟨kc_Row_isRingBegunAt, by decide +kernel⟩
set_option maxRecDepth 100000 in
theorem kk_Text_init : kOK m_Text_init := ⟨kc_Text_init, by decide +kernel⟩
set_option maxRecDepth 100000 in
theorem kk_Text_append : kOK m_Text_append := ⟨kc_Text_append, by decide +kernel⟩
set_option maxRecDepth 100000 in
theorem kk_Text_empty : kOK m_Text_empty := ⟨kc_Text_empty, by decide +kernel⟩
set_option maxRecDepth 100000 in
theorem kk_Text_isTurnLetter : kOK m_Text_isTurnLetter := ⟨kc_Text_isTurnLetter, by decide +kernel⟩
set_option maxRecDepth 100000 in
theorem kk_Text_fault : kOK m_Text_fault := ⟨kc_Text_fault, by decide +kernel⟩
set_option maxRecDepth 100000 in
theorem kk_Text_tell : kOK m_Text_tell := ⟨kc_Text_tell, by decide +kernel⟩
set_option maxRecDepth 100000 in
theorem kk_KN_init : kOK m_KN_init := ⟨kc_KN_init, by decide +kernel⟩
set_option maxRecDepth 100000 in
theorem kk_KN_type : kOK m_KN_type := ⟨kc_KN_type, by decide +kernel⟩
set_option maxRecDepth 100000 in
theorem kk_KN_clear : kOK m_KN_clear := ⟨kc_KN_clear, by decide +kernel⟩
set_option maxRecDepth 100000 in
theorem kk_KN_camp : kOK m_KN_camp := ⟨kc_KN_camp, by decide +kernel⟩
set_option maxRecDepth 100000 in
theorem kk_KN_name : kOK m_KN_name := ⟨kc_KN_name, by decide +kernel⟩
set_option maxRecDepth 100000 in
theorem kk_KN_contract : kOK m_KN_contract := ⟨kc_KN_contract, by decide +kernel⟩
set_option maxRecDepth 100000 in
theorem kk_KN_now : kOK m_KN_now := ⟨kc_KN_now, by decide +kernel⟩
set_option maxRecDepth 100000 in
theorem kk_KN_ties : kOK m_KN_ties := ⟨kc_KN_ties, by decide +kernel⟩
set_option maxRecDepth 100000 in
theorem kk_KN_loosens : kOK m_KN_loosens := ⟨kc_KN_loosens, by decide +kernel⟩
set_option maxRecDepth 100000 in
theorem kk_KN_bends : kOK m_KN_bends := ⟨kc_KN_bends, by decide +kernel⟩
set_option maxRecDepth 100000 in
theorem kk_KN_unties : kOK m_KN_unties := ⟨kc_KN_unties, by decide +kernel⟩
set_option maxRecDepth 100000 in
theorem kk_KN_adds : kOK m_KN_adds := ⟨kc_KN_adds, by decide +kernel⟩
set_option maxRecDepth 100000 in
theorem kk_KN_tears : kOK m_KN_tears := ⟨kc_KN_tears, by decide +kernel⟩
set_option maxRecDepth 100000 in
theorem kk_KN_undo : kOK m_KN_undo := ⟨kc_KN_undo, by decide +kernel⟩
set_option maxRecDepth 100000 in
theorem kk_KN_alike : kOK m_KN_alike := ⟨kc_KN_alike, by decide +kernel⟩
set_option maxRecDepth 100000 in
theorem kk_KN_ring : kOK m_KN_ring := ⟨kc_KN_ring, by decide +kernel⟩
set_option maxRecDepth 100000 in
theorem kk_KN_way : kOK m_KN_way := ⟨kc_KN_way, by decide +kernel⟩
set_option maxRecDepth 100000 in
theorem kk_KN_root : kOK m_KN_root := ⟨kc_KN_root, by decide +kernel⟩
set_option maxRecDepth 100000 in
theorem kk_KN_order : kOK m_KN_order := ⟨kc_KN_order, by decide +kernel⟩
set_option maxRecDepth 100000 in
theorem kk_KN_cold : kOK m_KN_cold := ⟨kc_KN_cold, by decide +kernel⟩
set_option maxRecDepth 100000 in
theorem kk_KN_mixed : kOK m_KN_mixed := ⟨kc_KN_mixed, by decide +kernel⟩
set_option maxRecDepth 100000 in
theorem kk_KN_newName : kOK m_KN_newName := ⟨kc_KN_newName, by decide +kernel⟩
set_option maxRecDepth 100000 in
theorem kk_KN_pulls : kOK m_KN_pulls := ⟨kc_KN_pulls, by decide +kernel⟩
set_option maxRecDepth 100000 in
theorem kk_KN_lives : kOK m_KN_lives := ⟨kc_KN_lives, by decide +kernel⟩
set_option maxRecDepth 100000 in
theorem kk_KN_next : kOK m_KN_next := ⟨kc_KN_next, by decide +kernel⟩
set_option maxRecDepth 100000 in
theorem kk_KN_porridge : kOK m_KN_porridge := ⟨kc_KN_porridge, by decide +kernel⟩
set_option maxRecDepth 100000 in
theorem kk_KN_share : kOK m_KN_share := ⟨kc_KN_share, by decide +kernel⟩
set_option maxRecDepth 100000 in
theorem kk_KN_rate : kOK m_KN_rate := ⟨kc_KN_rate, by decide +kernel⟩
set_option maxRecDepth 100000 in
theorem kk_KN_keep : kOK m_KN_keep := ⟨kc_KN_keep, by decide +kernel⟩
set_option maxRecDepth 100000 in
theorem kk_KN_back : kOK m_KN_back := ⟨kc_KN_back, by decide +kernel⟩
set_option maxRecDepth 100000 in
theorem kk_KN_count : kOK m_KN_count := ⟨kc_KN_count, by decide +kernel⟩
set_option maxRecDepth 100000 in
theorem kk_KN_trace : kOK m_KN_trace := ⟨kc_KN_trace, by decide +kernel⟩
set_option maxRecDepth 100000 in
theorem kk_KN_asHerder : kOK m_KN_asHerder := ⟨kc_KN_asHerder, by decide +kernel⟩
set_option maxRecDepth 100000 in
theorem kk_KN_asChief : kOK m_KN_asChief := ⟨kc_KN_asChief, by decide +kernel⟩
set_option maxRecDepth 100000 in
theorem kk_KN_asLiar : kOK m_KN_asLiar := ⟨kc_KN_asLiar, by decide +kernel⟩
set_option maxRecDepth 100000 in
theorem kk_KN_asFist : kOK m_KN_asFist := ⟨kc_KN_asFist, by decide +kernel⟩
set_option maxRecDepth 100000 in
theorem kk_KN_asThief : kOK m_KN_asThief := ⟨kc_KN_asThief, by decide +kernel⟩
set_option maxRecDepth 100000 in
theorem kk_KN_asWidow : kOK m_KN_asWidow := ⟨kc_KN_asWidow, by decide +kernel⟩
set_option maxRecDepth 100000 in
theorem kk_KN_isWithin : kOK m_KN_isWithin := ⟨kc_KN_isWithin, by decide +kernel⟩
set_option maxRecDepth 100000 in
theorem kk_KN_isTurn : kOK m_KN_isTurn := ⟨kc_KN_isTurn, by decide +kernel⟩
set_option maxRecDepth 100000 in
theorem kk_KN_undoing : kOK m_KN_undoing := ⟨kc_KN_undoing, by decide +kernel⟩
set_option maxRecDepth 100000 in
theorem kk_KN_lengthOrTurn : kOK m_KN_lengthOrTurn := ⟨kc_KN_lengthOrTurn, by decide +kernel⟩
set_option maxRecDepth 100000 in
theorem kk_KN_takenFor : kOK m_KN_takenFor := ⟨kc_KN_takenFor, by decide +kernel⟩
set_option maxRecDepth 100000 in
theorem kk_KN_power : kOK m_KN_power := ⟨kc_KN_power, by decide +kernel⟩
set_option maxRecDepth 100000 in
theorem kk_KN_leastTerms : kOK m_KN_leastTerms := ⟨kc_KN_leastTerms, by decide +kernel⟩
set_option maxRecDepth 100000 in
theorem kk_KN_commonDivisor : kOK m_KN_commonDivisor := ⟨kc_KN_commonDivisor, by decide +kernel⟩
set_option maxRecDepth 100000 in
theorem kk_KN_mostPairs : kOK m_KN_mostPairs := ⟨kc_KN_mostPairs, by decide +kernel⟩
set_option maxRecDepth 100000 in
theorem kk_KN_mostPairsWithin : kOK m_KN_mostPairsWithin := ⟨kc_KN_mostPairsWithin, by decide +kernel⟩
set_option maxRecDepth 100000 in
theorem kk_MD_init : kOK m_MD_init := ⟨kc_MD_init, by decide +kernel⟩
set_option maxRecDepth 100000 in
theorem kk_MD_in : kOK m_MD_in := ⟨kc_MD_in, by decide +kernel⟩
set_option maxRecDepth 100000 in
theorem kk_MD_isTwo : kOK m_MD_isTwo := ⟨kc_MD_isTwo, by decide +kernel⟩
set_option maxRecDepth 100000 in
theorem kk_MD_isTurn : kOK m_MD_isTurn := ⟨kc_MD_isTurn, by decide +kernel⟩
set_option maxRecDepth 100000 in
theorem kk_MD_bits : kOK m_MD_bits := ⟨kc_MD_bits, by decide +kernel⟩
set_option maxRecDepth 100000 in
theorem kk_MD_tie : kOK m_MD_tie := ⟨kc_MD_tie, by decide +kernel⟩
set_option maxRecDepth 100000 in
theorem kk_MD_tieRow : kOK m_MD_tieRow := ⟨kc_MD_tieRow, by decide +kernel⟩
set_option maxRecDepth 100000 in
theorem kk_MD_tieName : kOK m_MD_tieName := ⟨kc_MD_tieName, by decide +kernel⟩
set_option maxRecDepth 100000 in
theorem kk_MD_type : kOK m_MD_type := ⟨kc_MD_type, by decide +kernel⟩
set_option maxRecDepth 100000 in
theorem kk_MD_clear : kOK m_MD_clear := ⟨kc_MD_clear, by decide +kernel⟩
set_option maxRecDepth 100000 in
theorem kk_MD_turnOf : kOK m_MD_turnOf := ⟨kc_MD_turnOf, by decide +kernel⟩
set_option maxRecDepth 100000 in
theorem kk_MD_ahead : kOK m_MD_ahead := ⟨kc_MD_ahead, by decide +kernel⟩
set_option maxRecDepth 100000 in
theorem kk_MD_takesHerder : kOK m_MD_takesHerder := ⟨kc_MD_takesHerder, by decide +kernel⟩
set_option maxRecDepth 100000 in
theorem kk_MD_camp : kOK m_MD_camp := ⟨kc_MD_camp, by decide +kernel⟩
set_option maxRecDepth 100000 in
theorem kk_MD_copies : kOK m_MD_copies := ⟨kc_MD_copies, by decide +kernel⟩
set_option maxRecDepth 100000 in
theorem kk_MD_isHerder : kOK m_MD_isHerder := ⟨kc_MD_isHerder, by decide +kernel⟩
set_option maxRecDepth 100000 in
theorem kk_MD_name : kOK m_MD_name := ⟨kc_MD_name, by decide +kernel⟩
set_option maxRecDepth 100000 in
theorem kk_MD_contract : kOK m_MD_contract := ⟨kc_MD_contract, by decide +kernel⟩
set_option maxRecDepth 100000 in
theorem kk_MD_turnsOfAll : kOK m_MD_turnsOfAll := ⟨kc_MD_turnsOfAll, by decide +kernel⟩
set_option maxRecDepth 100000 in
theorem kk_MD_namesThere : kOK m_MD_namesThere := ⟨kc_MD_namesThere, by decide +kernel⟩
set_option maxRecDepth 100000 in
theorem kk_MD_now : kOK m_MD_now := ⟨kc_MD_now, by decide +kernel⟩
set_option maxRecDepth 100000 in
theorem kk_MD_remember : kOK m_MD_remember := ⟨kc_MD_remember, by decide +kernel⟩
set_option maxRecDepth 100000 in
theorem kk_MD_names : kOK m_MD_names := ⟨kc_MD_names, by decide +kernel⟩
set_option maxRecDepth 100000 in
theorem kk_MD_ties : kOK m_MD_ties := ⟨kc_MD_ties, by decide +kernel⟩
set_option maxRecDepth 100000 in
theorem kk_MD_loosens : kOK m_MD_loosens := ⟨kc_MD_loosens, by decide +kernel⟩
set_option maxRecDepth 100000 in
theorem kk_MD_bends : kOK m_MD_bends := ⟨kc_MD_bends, by decide +kernel⟩
set_option maxRecDepth 100000 in
theorem kk_MD_unties : kOK m_MD_unties := ⟨kc_MD_unties, by decide +kernel⟩
set_option maxRecDepth 100000 in
theorem kk_MD_adds : kOK m_MD_adds := ⟨kc_MD_adds, by decide +kernel⟩
set_option maxRecDepth 100000 in
theorem kk_MD_tears : kOK m_MD_tears := ⟨kc_MD_tears, by decide +kernel⟩
set_option maxRecDepth 100000 in
theorem kk_MD_undo : kOK m_MD_undo := ⟨kc_MD_undo, by decide +kernel⟩
set_option maxRecDepth 100000 in
theorem kk_MD_turnAt : kOK m_MD_turnAt := ⟨kc_MD_turnAt, by decide +kernel⟩
set_option maxRecDepth 100000 in
theorem kk_MD_unlike : kOK m_MD_unlike := ⟨kc_MD_unlike, by decide +kernel⟩
set_option maxRecDepth 100000 in
theorem kk_MD_nearTo : kOK m_MD_nearTo := ⟨kc_MD_nearTo, by decide +kernel⟩
set_option maxRecDepth 100000 in
theorem kk_MD_alikeOf : kOK m_MD_alikeOf := ⟨kc_MD_alikeOf, by decide +kernel⟩
set_option maxRecDepth 100000 in
theorem kk_MD_alike : kOK m_MD_alike := ⟨kc_MD_alike, by decide +kernel⟩
set_option maxRecDepth 100000 in
theorem kk_MD_ends : kOK m_MD_ends := ⟨kc_MD_ends, by decide +kernel⟩
set_option maxRecDepth 100000 in
theorem kk_MD_isRing : kOK m_MD_isRing := ⟨kc_MD_isRing, by decide +kernel⟩
set_option maxRecDepth 100000 in
theorem kk_MD_ring : kOK m_MD_ring := ⟨kc_MD_ring, by decide +kernel⟩
set_option maxRecDepth 100000 in
theorem kk_MD_way : kOK m_MD_way := ⟨kc_MD_way, by decide +kernel⟩
set_option maxRecDepth 100000 in
theorem kk_MD_rootOf : kOK m_MD_rootOf := ⟨kc_MD_rootOf, by decide +kernel⟩
set_option maxRecDepth 100000 in
theorem kk_MD_root : kOK m_MD_root := ⟨kc_MD_root, by decide +kernel⟩
set_option maxRecDepth 100000 in
theorem kk_MD_isAhead : kOK m_MD_isAhead := ⟨kc_MD_isAhead, by decide +kernel⟩
set_option maxRecDepth 100000 in
theorem kk_MD_order : kOK m_MD_order := ⟨kc_MD_order, by decide +kernel⟩
set_option maxRecDepth 100000 in
theorem kk_MD_least : kOK m_MD_least := ⟨kc_MD_least, by decide +kernel⟩
set_option maxRecDepth 100000 in
theorem kk_MD_cold : kOK m_MD_cold := ⟨kc_MD_cold, by decide +kernel⟩
set_option maxRecDepth 100000 in
theorem kk_MD_mixed : kOK m_MD_mixed := ⟨kc_MD_mixed, by decide +kernel⟩
set_option maxRecDepth 100000 in
theorem kk_MD_isNew : kOK m_MD_isNew := ⟨kc_MD_isNew, by decide +kernel⟩
set_option maxRecDepth 100000 in
theorem kk_MD_newName : kOK m_MD_newName := ⟨kc_MD_newName, by decide +kernel⟩
set_option maxRecDepth 100000 in
theorem kk_MD_mend : kOK m_MD_mend := ⟨kc_MD_mend, by decide +kernel⟩
set_option maxRecDepth 100000 in
theorem kk_MD_tieContract : kOK m_MD_tieContract := ⟨kc_MD_tieContract, by decide +kernel⟩
set_option maxRecDepth 100000 in
theorem kk_MD_pulls : kOK m_MD_pulls := ⟨kc_MD_pulls, by decide +kernel⟩
set_option maxRecDepth 100000 in
theorem kk_MD_isLife : kOK m_MD_isLife := ⟨kc_MD_isLife, by decide +kernel⟩
set_option maxRecDepth 100000 in
theorem kk_MD_layContract : kOK m_MD_layContract := ⟨kc_MD_layContract, by decide +kernel⟩
set_option maxRecDepth 100000 in
theorem kk_MD_lives : kOK m_MD_lives := ⟨kc_MD_lives, by decide +kernel⟩
set_option maxRecDepth 100000 in
theorem kk_MD_next : kOK m_MD_next := ⟨kc_MD_next, by decide +kernel⟩
set_option maxRecDepth 100000 in
theorem kk_MD_porridge : kOK m_MD_porridge := ⟨kc_MD_porridge, by decide +kernel⟩
set_option maxRecDepth 100000 in
theorem kk_MD_share : kOK m_MD_share := ⟨kc_MD_share, by decide +kernel⟩
set_option maxRecDepth 100000 in
theorem kk_MD_rate : kOK m_MD_rate := ⟨kc_MD_rate, by decide +kernel⟩
set_option maxRecDepth 100000 in
theorem kk_MD_keep : kOK m_MD_keep := ⟨kc_MD_keep, by decide +kernel⟩
set_option maxRecDepth 100000 in
theorem kk_MD_back : kOK m_MD_back := ⟨kc_MD_back, by decide +kernel⟩
set_option maxRecDepth 100000 in
theorem kk_MD_count : kOK m_MD_count := ⟨kc_MD_count, by decide +kernel⟩
set_option maxRecDepth 100000 in
theorem kk_MD_trace : kOK m_MD_trace := ⟨kc_MD_trace, by decide +kernel⟩
set_option maxRecDepth 100000 in
theorem kk_JInt_compare : kOK m_JInt_compare := ⟨kc_JInt_compare, by decide +kernel⟩
set_option maxRecDepth 100000 in
theorem kk_JInt_bitCount : kOK m_JInt_bitCount := ⟨kc_JInt_bitCount, by decide +kernel⟩
set_option maxRecDepth 100000 in
theorem kk_JStr_length : kOK m_JStr_length := ⟨kc_JStr_length, by decide +kernel⟩
set_option maxRecDepth 100000 in
theorem kk_JStr_indexOf : kOK m_JStr_indexOf := ⟨kc_JStr_indexOf, by decide +kernel⟩
set_option maxRecDepth 100000 in
theorem kk_JStr_indexOf2 : kOK m_JStr_indexOf2 := ⟨kc_JStr_indexOf2, by decide +kernel⟩
set_option maxRecDepth 100000 in
theorem kk_JStr_coder : kOK m_JStr_coder := ⟨kc_JStr_coder, by decide +kernel⟩
set_option maxRecDepth 100000 in
theorem kk_JStr_isLatin1 : kOK m_JStr_isLatin1 := ⟨kc_JStr_isLatin1, by decide +kernel⟩
set_option maxRecDepth 100000 in
theorem kk_JLat_canEncode : kOK m_JLat_canEncode := ⟨kc_JLat_canEncode, by decide +kernel⟩
set_option maxRecDepth 100000 in
theorem kk_JLat_indexOf : kOK m_JLat_indexOf := ⟨kc_JLat_indexOf, by decide +kernel⟩
set_option maxRecDepth 100000 in
theorem kk_JLat_indexOfChar : kOK m_JLat_indexOfChar := ⟨kc_JLat_indexOfChar, by decide +kernel⟩
set_option maxRecDepth 100000 in
theorem kk_LAW_law : kOK m_LAW_law := ⟨kc_LAW_law, by decide +kernel⟩
theorem kOK_0 : ∀ m ∈ mt_0, kOK m := List.forall_mem_cons.mpr ⟨kk_Camp_init, List.forall_mem_cons.mpr ⟨kk_Camp_has, List.forall_mem_cons.mpr ⟨kk_Camp_nameOf, List.forall_mem_cons.mpr ⟨kk_Camp_empty, List.forall_mem_cons.mpr ⟨kk_Camp_addHerder, List.forall_mem_cons.mpr ⟨kk_Camp_tieLastHerder, List.forall_mem_cons.mpr ⟨kk_Camp_become, List.forall_mem_cons.mpr ⟨kk_Camp_turns, List.forall_mem_cons.mpr ⟨kk_Camp_named, List.forall_mem_cons.mpr ⟨kk_Camp_calledLike, List.forall_mem_cons.mpr ⟨kk_Camp_unlikeNames, List.forall_mem_cons.mpr ⟨kk_Lives_init, List.forall_mem_cons.mpr ⟨kk_Lives_readBack, List.forall_mem_cons.mpr ⟨kk_Lives_seek, List.forall_mem_cons.mpr ⟨kk_Lives_note, List.forall_mem_cons.mpr ⟨kk_Lives_inMost, List.forall_mem_cons.mpr ⟨kk_NewN_init, List.forall_mem_cons.mpr ⟨kk_NewN_find, List.forall_mem_cons.mpr ⟨kk_NewN_spell, List.forall_mem_cons.mpr ⟨kk_NewN_isFar, (fun _ h => absurd h List.not_mem_nil)⟩⟩⟩⟩⟩⟩⟩⟩⟩⟩⟩⟩⟩⟩⟩⟩⟩⟩⟩⟩
theorem kOK_1 : ∀ m ∈ mt_1, kOK m := List.forall_mem_cons.mpr ⟨kk_Past_init, List.forall_mem_cons.mpr ⟨kk_Past_remember, List.forall_mem_cons.mpr ⟨kk_Past_takeBack, List.forall_mem_cons.mpr ⟨kk_Past_forget, List.forall_mem_cons.mpr ⟨kk_Row_init, List.forall_mem_cons.mpr ⟨kk_Row_at, List.forall_mem_cons.mpr ⟨kk_Row_last, List.forall_mem_cons.mpr ⟨kk_Row_empty, List.forall_mem_cons.mpr ⟨kk_Row_append, List.forall_mem_cons.mpr ⟨kk_Row_dropLast, List.forall_mem_cons.mpr ⟨kk_Row_endsUndoing, List.forall_mem_cons.mpr ⟨kk_Row_takesTight, List.forall_mem_cons.mpr ⟨kk_Row_appendTight, List.forall_mem_cons.mpr ⟨kk_Row_appendAllTight, List.forall_mem_cons.mpr ⟨kk_Row_appendAllUndoing, List.forall_mem_cons.mpr ⟨kk_Row_become, List.forall_mem_cons.mpr ⟨kk_Row_becomeTight, List.forall_mem_cons.mpr ⟨kk_Row_becomeJoined, List.forall_mem_cons.mpr ⟨kk_Row_isTight, List.forall_mem_cons.mpr ⟨kk_Row_commonStart, (fun _ h => absurd h List.not_mem_nil)⟩⟩⟩⟩⟩⟩⟩⟩⟩⟩⟩⟩⟩⟩⟩⟩⟩⟩⟩⟩
theorem kOK_2 : ∀ m ∈ mt_2, kOK m := List.forall_mem_cons.mpr ⟨kk_Row_isLike, List.forall_mem_cons.mpr ⟨kk_Row_compareWith, List.forall_mem_cons.mpr ⟨kk_Row_differences, List.forall_mem_cons.mpr ⟨kk_Row_shortestRepeated, List.forall_mem_cons.mpr ⟨kk_Row_repeats, List.forall_mem_cons.mpr ⟨kk_Row_lostByBending, List.forall_mem_cons.mpr ⟨kk_Row_isRingOf, List.forall_mem_cons.mpr ⟨kk_Row_isRingBegunAt, List.forall_mem_cons.mpr ⟨kk_Text_init, List.forall_mem_cons.mpr ⟨kk_Text_append, List.forall_mem_cons.mpr ⟨kk_Text_empty, List.forall_mem_cons.mpr ⟨kk_Text_isTurnLetter, List.forall_mem_cons.mpr ⟨kk_Text_fault, List.forall_mem_cons.mpr ⟨kk_Text_tell, List.forall_mem_cons.mpr ⟨kk_KN_init, List.forall_mem_cons.mpr ⟨kk_KN_type, List.forall_mem_cons.mpr ⟨kk_KN_clear, List.forall_mem_cons.mpr ⟨kk_KN_camp, List.forall_mem_cons.mpr ⟨kk_KN_name, List.forall_mem_cons.mpr ⟨kk_KN_contract, (fun _ h => absurd h List.not_mem_nil)⟩⟩⟩⟩⟩⟩⟩⟩⟩⟩⟩⟩⟩⟩⟩⟩⟩⟩⟩⟩
theorem kOK_3 : ∀ m ∈ mt_3, kOK m := List.forall_mem_cons.mpr ⟨kk_KN_now, List.forall_mem_cons.mpr ⟨kk_KN_ties, List.forall_mem_cons.mpr ⟨kk_KN_loosens, List.forall_mem_cons.mpr ⟨kk_KN_bends, List.forall_mem_cons.mpr ⟨kk_KN_unties, List.forall_mem_cons.mpr ⟨kk_KN_adds, List.forall_mem_cons.mpr ⟨kk_KN_tears, List.forall_mem_cons.mpr ⟨kk_KN_undo, List.forall_mem_cons.mpr ⟨kk_KN_alike, List.forall_mem_cons.mpr ⟨kk_KN_ring, List.forall_mem_cons.mpr ⟨kk_KN_way, List.forall_mem_cons.mpr ⟨kk_KN_root, List.forall_mem_cons.mpr ⟨kk_KN_order, List.forall_mem_cons.mpr ⟨kk_KN_cold, List.forall_mem_cons.mpr ⟨kk_KN_mixed, List.forall_mem_cons.mpr ⟨kk_KN_newName, List.forall_mem_cons.mpr ⟨kk_KN_pulls, List.forall_mem_cons.mpr ⟨kk_KN_lives, List.forall_mem_cons.mpr ⟨kk_KN_next, List.forall_mem_cons.mpr ⟨kk_KN_porridge, (fun _ h => absurd h List.not_mem_nil)⟩⟩⟩⟩⟩⟩⟩⟩⟩⟩⟩⟩⟩⟩⟩⟩⟩⟩⟩⟩
theorem kOK_4 : ∀ m ∈ mt_4, kOK m := List.forall_mem_cons.mpr ⟨kk_KN_share, List.forall_mem_cons.mpr ⟨kk_KN_rate, List.forall_mem_cons.mpr ⟨kk_KN_keep, List.forall_mem_cons.mpr ⟨kk_KN_back, List.forall_mem_cons.mpr ⟨kk_KN_count, List.forall_mem_cons.mpr ⟨kk_KN_trace, List.forall_mem_cons.mpr ⟨kk_KN_asHerder, List.forall_mem_cons.mpr ⟨kk_KN_asChief, List.forall_mem_cons.mpr ⟨kk_KN_asLiar, List.forall_mem_cons.mpr ⟨kk_KN_asFist, List.forall_mem_cons.mpr ⟨kk_KN_asThief, List.forall_mem_cons.mpr ⟨kk_KN_asWidow, List.forall_mem_cons.mpr ⟨kk_KN_isWithin, List.forall_mem_cons.mpr ⟨kk_KN_isTurn, List.forall_mem_cons.mpr ⟨kk_KN_undoing, List.forall_mem_cons.mpr ⟨kk_KN_lengthOrTurn, List.forall_mem_cons.mpr ⟨kk_KN_takenFor, List.forall_mem_cons.mpr ⟨kk_KN_power, List.forall_mem_cons.mpr ⟨kk_KN_leastTerms, List.forall_mem_cons.mpr ⟨kk_KN_commonDivisor, (fun _ h => absurd h List.not_mem_nil)⟩⟩⟩⟩⟩⟩⟩⟩⟩⟩⟩⟩⟩⟩⟩⟩⟩⟩⟩⟩
theorem kOK_5 : ∀ m ∈ mt_5, kOK m := List.forall_mem_cons.mpr ⟨kk_KN_mostPairs, List.forall_mem_cons.mpr ⟨kk_KN_mostPairsWithin, List.forall_mem_cons.mpr ⟨kk_MD_init, List.forall_mem_cons.mpr ⟨kk_MD_in, List.forall_mem_cons.mpr ⟨kk_MD_isTwo, List.forall_mem_cons.mpr ⟨kk_MD_isTurn, List.forall_mem_cons.mpr ⟨kk_MD_bits, List.forall_mem_cons.mpr ⟨kk_MD_tie, List.forall_mem_cons.mpr ⟨kk_MD_tieRow, List.forall_mem_cons.mpr ⟨kk_MD_tieName, List.forall_mem_cons.mpr ⟨kk_MD_type, List.forall_mem_cons.mpr ⟨kk_MD_clear, List.forall_mem_cons.mpr ⟨kk_MD_turnOf, List.forall_mem_cons.mpr ⟨kk_MD_ahead, List.forall_mem_cons.mpr ⟨kk_MD_takesHerder, List.forall_mem_cons.mpr ⟨kk_MD_camp, List.forall_mem_cons.mpr ⟨kk_MD_copies, List.forall_mem_cons.mpr ⟨kk_MD_isHerder, List.forall_mem_cons.mpr ⟨kk_MD_name, List.forall_mem_cons.mpr ⟨kk_MD_contract, (fun _ h => absurd h List.not_mem_nil)⟩⟩⟩⟩⟩⟩⟩⟩⟩⟩⟩⟩⟩⟩⟩⟩⟩⟩⟩⟩
theorem kOK_6 : ∀ m ∈ mt_6, kOK m := List.forall_mem_cons.mpr ⟨kk_MD_turnsOfAll, List.forall_mem_cons.mpr ⟨kk_MD_namesThere, List.forall_mem_cons.mpr ⟨kk_MD_now, List.forall_mem_cons.mpr ⟨kk_MD_remember, List.forall_mem_cons.mpr ⟨kk_MD_names, List.forall_mem_cons.mpr ⟨kk_MD_ties, List.forall_mem_cons.mpr ⟨kk_MD_loosens, List.forall_mem_cons.mpr ⟨kk_MD_bends, List.forall_mem_cons.mpr ⟨kk_MD_unties, List.forall_mem_cons.mpr ⟨kk_MD_adds, List.forall_mem_cons.mpr ⟨kk_MD_tears, List.forall_mem_cons.mpr ⟨kk_MD_undo, List.forall_mem_cons.mpr ⟨kk_MD_turnAt, List.forall_mem_cons.mpr ⟨kk_MD_unlike, List.forall_mem_cons.mpr ⟨kk_MD_nearTo, List.forall_mem_cons.mpr ⟨kk_MD_alikeOf, List.forall_mem_cons.mpr ⟨kk_MD_alike, List.forall_mem_cons.mpr ⟨kk_MD_ends, List.forall_mem_cons.mpr ⟨kk_MD_isRing, List.forall_mem_cons.mpr ⟨kk_MD_ring, (fun _ h => absurd h List.not_mem_nil)⟩⟩⟩⟩⟩⟩⟩⟩⟩⟩⟩⟩⟩⟩⟩⟩⟩⟩⟩⟩
theorem kOK_7 : ∀ m ∈ mt_7, kOK m := List.forall_mem_cons.mpr ⟨kk_MD_way, List.forall_mem_cons.mpr ⟨kk_MD_rootOf, List.forall_mem_cons.mpr ⟨kk_MD_root, List.forall_mem_cons.mpr ⟨kk_MD_isAhead, List.forall_mem_cons.mpr ⟨kk_MD_order, List.forall_mem_cons.mpr ⟨kk_MD_least, List.forall_mem_cons.mpr ⟨kk_MD_cold, List.forall_mem_cons.mpr ⟨kk_MD_mixed, List.forall_mem_cons.mpr ⟨kk_MD_isNew, List.forall_mem_cons.mpr ⟨kk_MD_newName, List.forall_mem_cons.mpr ⟨kk_MD_mend, List.forall_mem_cons.mpr ⟨kk_MD_tieContract, List.forall_mem_cons.mpr ⟨kk_MD_pulls, List.forall_mem_cons.mpr ⟨kk_MD_isLife, List.forall_mem_cons.mpr ⟨kk_MD_layContract, List.forall_mem_cons.mpr ⟨kk_MD_lives, List.forall_mem_cons.mpr ⟨kk_MD_next, List.forall_mem_cons.mpr ⟨kk_MD_porridge, List.forall_mem_cons.mpr ⟨kk_MD_share, List.forall_mem_cons.mpr ⟨kk_MD_rate, (fun _ h => absurd h List.not_mem_nil)⟩⟩⟩⟩⟩⟩⟩⟩⟩⟩⟩⟩⟩⟩⟩⟩⟩⟩⟩⟩
theorem kOK_8 : ∀ m ∈ mt_8, kOK m := List.forall_mem_cons.mpr ⟨kk_MD_keep, List.forall_mem_cons.mpr ⟨kk_MD_back, List.forall_mem_cons.mpr ⟨kk_MD_count, List.forall_mem_cons.mpr ⟨kk_MD_trace, List.forall_mem_cons.mpr ⟨kk_JInt_compare, List.forall_mem_cons.mpr ⟨kk_JInt_bitCount, List.forall_mem_cons.mpr ⟨kk_JStr_length, List.forall_mem_cons.mpr ⟨kk_JStr_indexOf, List.forall_mem_cons.mpr ⟨kk_JStr_indexOf2, List.forall_mem_cons.mpr ⟨kk_JStr_coder, List.forall_mem_cons.mpr ⟨kk_JStr_isLatin1, List.forall_mem_cons.mpr ⟨kk_JLat_canEncode, List.forall_mem_cons.mpr ⟨kk_JLat_indexOf, List.forall_mem_cons.mpr ⟨kk_JLat_indexOfChar, List.forall_mem_cons.mpr ⟨kk_LAW_law, (fun _ h => absurd h List.not_mem_nil)⟩⟩⟩⟩⟩⟩⟩⟩⟩⟩⟩⟩⟩⟩⟩
theorem mt_k : ∀ m ∈ mt, kOK m := List.forall_mem_append.mpr ⟨kOK_0, List.forall_mem_append.mpr ⟨kOK_1, List.forall_mem_append.mpr ⟨kOK_2, List.forall_mem_append.mpr ⟨kOK_3, List.forall_mem_append.mpr ⟨kOK_4, List.forall_mem_append.mpr ⟨kOK_5, List.forall_mem_append.mpr ⟨kOK_6, List.forall_mem_append.mpr ⟨kOK_7, kOK_8⟩⟩⟩⟩⟩⟩⟩⟩
theorem mOKa_0 : ∀ m ∈ mt_0, m = m_LAW_law ∨ ∃ q, mOK m q := List.forall_mem_cons.mpr ⟨Or.inr ⟨_, mo_Camp_init⟩, List.forall_mem_cons.mpr ⟨Or.inr ⟨_, mo_Camp_has⟩, List.forall_mem_cons.mpr ⟨Or.inr ⟨_, mo_Camp_nameOf⟩, List.forall_mem_cons.mpr ⟨Or.inr ⟨_, mo_Camp_empty⟩, List.forall_mem_cons.mpr ⟨Or.inr ⟨_, mo_Camp_addHerder⟩, List.forall_mem_cons.mpr ⟨Or.inr ⟨_, mo_Camp_tieLastHerder⟩, List.forall_mem_cons.mpr ⟨Or.inr ⟨_, mo_Camp_become⟩, List.forall_mem_cons.mpr ⟨Or.inr ⟨_, mo_Camp_turns⟩, List.forall_mem_cons.mpr ⟨Or.inr ⟨_, mo_Camp_named⟩, List.forall_mem_cons.mpr ⟨Or.inr ⟨_, mo_Camp_calledLike⟩, List.forall_mem_cons.mpr ⟨Or.inr ⟨_, mo_Camp_unlikeNames⟩, List.forall_mem_cons.mpr ⟨Or.inr ⟨_, mo_Lives_init⟩, List.forall_mem_cons.mpr ⟨Or.inr ⟨_, mo_Lives_readBack⟩, List.forall_mem_cons.mpr ⟨Or.inr ⟨_, mo_Lives_seek⟩, List.forall_mem_cons.mpr ⟨Or.inr ⟨_, mo_Lives_note⟩, List.forall_mem_cons.mpr ⟨Or.inr ⟨_, mo_Lives_inMost⟩, List.forall_mem_cons.mpr ⟨Or.inr ⟨_, mo_NewN_init⟩, List.forall_mem_cons.mpr ⟨Or.inr ⟨_, mo_NewN_find⟩, List.forall_mem_cons.mpr ⟨Or.inr ⟨_, mo_NewN_spell⟩, List.forall_mem_cons.mpr ⟨Or.inr ⟨_, mo_NewN_isFar⟩, (fun _ h => absurd h List.not_mem_nil)⟩⟩⟩⟩⟩⟩⟩⟩⟩⟩⟩⟩⟩⟩⟩⟩⟩⟩⟩⟩
theorem mOKa_1 : ∀ m ∈ mt_1, m = m_LAW_law ∨ ∃ q, mOK m q := List.forall_mem_cons.mpr ⟨Or.inr ⟨_, mo_Past_init⟩, List.forall_mem_cons.mpr ⟨Or.inr ⟨_, mo_Past_remember⟩, List.forall_mem_cons.mpr ⟨Or.inr ⟨_, mo_Past_takeBack⟩, List.forall_mem_cons.mpr ⟨Or.inr ⟨_, mo_Past_forget⟩, List.forall_mem_cons.mpr ⟨Or.inr ⟨_, mo_Row_init⟩, List.forall_mem_cons.mpr ⟨Or.inr ⟨_, mo_Row_at⟩, List.forall_mem_cons.mpr ⟨Or.inr ⟨_, mo_Row_last⟩, List.forall_mem_cons.mpr ⟨Or.inr ⟨_, mo_Row_empty⟩, List.forall_mem_cons.mpr ⟨Or.inr ⟨_, mo_Row_append⟩, List.forall_mem_cons.mpr ⟨Or.inr ⟨_, mo_Row_dropLast⟩, List.forall_mem_cons.mpr ⟨Or.inr ⟨_, mo_Row_endsUndoing⟩, List.forall_mem_cons.mpr ⟨Or.inr ⟨_, mo_Row_takesTight⟩, List.forall_mem_cons.mpr ⟨Or.inr ⟨_, mo_Row_appendTight⟩, List.forall_mem_cons.mpr ⟨Or.inr ⟨_, mo_Row_appendAllTight⟩, List.forall_mem_cons.mpr ⟨Or.inr ⟨_, mo_Row_appendAllUndoing⟩, List.forall_mem_cons.mpr ⟨Or.inr ⟨_, mo_Row_become⟩, List.forall_mem_cons.mpr ⟨Or.inr ⟨_, mo_Row_becomeTight⟩, List.forall_mem_cons.mpr ⟨Or.inr ⟨_, mo_Row_becomeJoined⟩, List.forall_mem_cons.mpr ⟨Or.inr ⟨_, mo_Row_isTight⟩, List.forall_mem_cons.mpr ⟨Or.inr ⟨_, mo_Row_commonStart⟩, (fun _ h => absurd h List.not_mem_nil)⟩⟩⟩⟩⟩⟩⟩⟩⟩⟩⟩⟩⟩⟩⟩⟩⟩⟩⟩⟩
theorem mOKa_2 : ∀ m ∈ mt_2, m = m_LAW_law ∨ ∃ q, mOK m q := List.forall_mem_cons.mpr ⟨Or.inr ⟨_, mo_Row_isLike⟩, List.forall_mem_cons.mpr ⟨Or.inr ⟨_, mo_Row_compareWith⟩, List.forall_mem_cons.mpr ⟨Or.inr ⟨_, mo_Row_differences⟩, List.forall_mem_cons.mpr ⟨Or.inr ⟨_, mo_Row_shortestRepeated⟩, List.forall_mem_cons.mpr ⟨Or.inr ⟨_, mo_Row_repeats⟩, List.forall_mem_cons.mpr ⟨Or.inr ⟨_, mo_Row_lostByBending⟩, List.forall_mem_cons.mpr ⟨Or.inr ⟨_, mo_Row_isRingOf⟩, List.forall_mem_cons.mpr ⟨Or.inr ⟨_, mo_Row_isRingBegunAt⟩, List.forall_mem_cons.mpr ⟨Or.inr ⟨_, mo_Text_init⟩, List.forall_mem_cons.mpr ⟨Or.inr ⟨_, mo_Text_append⟩, List.forall_mem_cons.mpr ⟨Or.inr ⟨_, mo_Text_empty⟩, List.forall_mem_cons.mpr ⟨Or.inr ⟨_, mo_Text_isTurnLetter⟩, List.forall_mem_cons.mpr ⟨Or.inr ⟨_, mo_Text_fault⟩, List.forall_mem_cons.mpr ⟨Or.inr ⟨_, mo_Text_tell⟩, List.forall_mem_cons.mpr ⟨Or.inr ⟨_, mo_KN_init⟩, List.forall_mem_cons.mpr ⟨Or.inr ⟨_, mo_KN_type⟩, List.forall_mem_cons.mpr ⟨Or.inr ⟨_, mo_KN_clear⟩, List.forall_mem_cons.mpr ⟨Or.inr ⟨_, mo_KN_camp⟩, List.forall_mem_cons.mpr ⟨Or.inr ⟨_, mo_KN_name⟩, List.forall_mem_cons.mpr ⟨Or.inr ⟨_, mo_KN_contract⟩, (fun _ h => absurd h List.not_mem_nil)⟩⟩⟩⟩⟩⟩⟩⟩⟩⟩⟩⟩⟩⟩⟩⟩⟩⟩⟩⟩
theorem mOKa_3 : ∀ m ∈ mt_3, m = m_LAW_law ∨ ∃ q, mOK m q := List.forall_mem_cons.mpr ⟨Or.inr ⟨_, mo_KN_now⟩, List.forall_mem_cons.mpr ⟨Or.inr ⟨_, mo_KN_ties⟩, List.forall_mem_cons.mpr ⟨Or.inr ⟨_, mo_KN_loosens⟩, List.forall_mem_cons.mpr ⟨Or.inr ⟨_, mo_KN_bends⟩, List.forall_mem_cons.mpr ⟨Or.inr ⟨_, mo_KN_unties⟩, List.forall_mem_cons.mpr ⟨Or.inr ⟨_, mo_KN_adds⟩, List.forall_mem_cons.mpr ⟨Or.inr ⟨_, mo_KN_tears⟩, List.forall_mem_cons.mpr ⟨Or.inr ⟨_, mo_KN_undo⟩, List.forall_mem_cons.mpr ⟨Or.inr ⟨_, mo_KN_alike⟩, List.forall_mem_cons.mpr ⟨Or.inr ⟨_, mo_KN_ring⟩, List.forall_mem_cons.mpr ⟨Or.inr ⟨_, mo_KN_way⟩, List.forall_mem_cons.mpr ⟨Or.inr ⟨_, mo_KN_root⟩, List.forall_mem_cons.mpr ⟨Or.inr ⟨_, mo_KN_order⟩, List.forall_mem_cons.mpr ⟨Or.inr ⟨_, mo_KN_cold⟩, List.forall_mem_cons.mpr ⟨Or.inr ⟨_, mo_KN_mixed⟩, List.forall_mem_cons.mpr ⟨Or.inr ⟨_, mo_KN_newName⟩, List.forall_mem_cons.mpr ⟨Or.inr ⟨_, mo_KN_pulls⟩, List.forall_mem_cons.mpr ⟨Or.inr ⟨_, mo_KN_lives⟩, List.forall_mem_cons.mpr ⟨Or.inr ⟨_, mo_KN_next⟩, List.forall_mem_cons.mpr ⟨Or.inr ⟨_, mo_KN_porridge⟩, (fun _ h => absurd h List.not_mem_nil)⟩⟩⟩⟩⟩⟩⟩⟩⟩⟩⟩⟩⟩⟩⟩⟩⟩⟩⟩⟩
theorem mOKa_4 : ∀ m ∈ mt_4, m = m_LAW_law ∨ ∃ q, mOK m q := List.forall_mem_cons.mpr ⟨Or.inr ⟨_, mo_KN_share⟩, List.forall_mem_cons.mpr ⟨Or.inr ⟨_, mo_KN_rate⟩, List.forall_mem_cons.mpr ⟨Or.inr ⟨_, mo_KN_keep⟩, List.forall_mem_cons.mpr ⟨Or.inr ⟨_, mo_KN_back⟩, List.forall_mem_cons.mpr ⟨Or.inr ⟨_, mo_KN_count⟩, List.forall_mem_cons.mpr ⟨Or.inr ⟨_, mo_KN_trace⟩, List.forall_mem_cons.mpr ⟨Or.inr ⟨_, mo_KN_asHerder⟩, List.forall_mem_cons.mpr ⟨Or.inr ⟨_, mo_KN_asChief⟩, List.forall_mem_cons.mpr ⟨Or.inr ⟨_, mo_KN_asLiar⟩, List.forall_mem_cons.mpr ⟨Or.inr ⟨_, mo_KN_asFist⟩, List.forall_mem_cons.mpr ⟨Or.inr ⟨_, mo_KN_asThief⟩, List.forall_mem_cons.mpr ⟨Or.inr ⟨_, mo_KN_asWidow⟩, List.forall_mem_cons.mpr ⟨Or.inr ⟨_, mo_KN_isWithin⟩, List.forall_mem_cons.mpr ⟨Or.inr ⟨_, mo_KN_isTurn⟩, List.forall_mem_cons.mpr ⟨Or.inr ⟨_, mo_KN_undoing⟩, List.forall_mem_cons.mpr ⟨Or.inr ⟨_, mo_KN_lengthOrTurn⟩, List.forall_mem_cons.mpr ⟨Or.inr ⟨_, mo_KN_takenFor⟩, List.forall_mem_cons.mpr ⟨Or.inr ⟨_, mo_KN_power⟩, List.forall_mem_cons.mpr ⟨Or.inr ⟨_, mo_KN_leastTerms⟩, List.forall_mem_cons.mpr ⟨Or.inr ⟨_, mo_KN_commonDivisor⟩, (fun _ h => absurd h List.not_mem_nil)⟩⟩⟩⟩⟩⟩⟩⟩⟩⟩⟩⟩⟩⟩⟩⟩⟩⟩⟩⟩
theorem mOKa_5 : ∀ m ∈ mt_5, m = m_LAW_law ∨ ∃ q, mOK m q := List.forall_mem_cons.mpr ⟨Or.inr ⟨_, mo_KN_mostPairs⟩, List.forall_mem_cons.mpr ⟨Or.inr ⟨_, mo_KN_mostPairsWithin⟩, List.forall_mem_cons.mpr ⟨Or.inr ⟨_, mo_MD_init⟩, List.forall_mem_cons.mpr ⟨Or.inr ⟨_, mo_MD_in⟩, List.forall_mem_cons.mpr ⟨Or.inr ⟨_, mo_MD_isTwo⟩, List.forall_mem_cons.mpr ⟨Or.inr ⟨_, mo_MD_isTurn⟩, List.forall_mem_cons.mpr ⟨Or.inr ⟨_, mo_MD_bits⟩, List.forall_mem_cons.mpr ⟨Or.inr ⟨_, mo_MD_tie⟩, List.forall_mem_cons.mpr ⟨Or.inr ⟨_, mo_MD_tieRow⟩, List.forall_mem_cons.mpr ⟨Or.inr ⟨_, mo_MD_tieName⟩, List.forall_mem_cons.mpr ⟨Or.inr ⟨_, mo_MD_type⟩, List.forall_mem_cons.mpr ⟨Or.inr ⟨_, mo_MD_clear⟩, List.forall_mem_cons.mpr ⟨Or.inr ⟨_, mo_MD_turnOf⟩, List.forall_mem_cons.mpr ⟨Or.inr ⟨_, mo_MD_ahead⟩, List.forall_mem_cons.mpr ⟨Or.inr ⟨_, mo_MD_takesHerder⟩, List.forall_mem_cons.mpr ⟨Or.inr ⟨_, mo_MD_camp⟩, List.forall_mem_cons.mpr ⟨Or.inr ⟨_, mo_MD_copies⟩, List.forall_mem_cons.mpr ⟨Or.inr ⟨_, mo_MD_isHerder⟩, List.forall_mem_cons.mpr ⟨Or.inr ⟨_, mo_MD_name⟩, List.forall_mem_cons.mpr ⟨Or.inr ⟨_, mo_MD_contract⟩, (fun _ h => absurd h List.not_mem_nil)⟩⟩⟩⟩⟩⟩⟩⟩⟩⟩⟩⟩⟩⟩⟩⟩⟩⟩⟩⟩
theorem mOKa_6 : ∀ m ∈ mt_6, m = m_LAW_law ∨ ∃ q, mOK m q := List.forall_mem_cons.mpr ⟨Or.inr ⟨_, mo_MD_turnsOfAll⟩, List.forall_mem_cons.mpr ⟨Or.inr ⟨_, mo_MD_namesThere⟩, List.forall_mem_cons.mpr ⟨Or.inr ⟨_, mo_MD_now⟩, List.forall_mem_cons.mpr ⟨Or.inr ⟨_, mo_MD_remember⟩, List.forall_mem_cons.mpr ⟨Or.inr ⟨_, mo_MD_names⟩, List.forall_mem_cons.mpr ⟨Or.inr ⟨_, mo_MD_ties⟩, List.forall_mem_cons.mpr ⟨Or.inr ⟨_, mo_MD_loosens⟩, List.forall_mem_cons.mpr ⟨Or.inr ⟨_, mo_MD_bends⟩, List.forall_mem_cons.mpr ⟨Or.inr ⟨_, mo_MD_unties⟩, List.forall_mem_cons.mpr ⟨Or.inr ⟨_, mo_MD_adds⟩, List.forall_mem_cons.mpr ⟨Or.inr ⟨_, mo_MD_tears⟩, List.forall_mem_cons.mpr ⟨Or.inr ⟨_, mo_MD_undo⟩, List.forall_mem_cons.mpr ⟨Or.inr ⟨_, mo_MD_turnAt⟩, List.forall_mem_cons.mpr ⟨Or.inr ⟨_, mo_MD_unlike⟩, List.forall_mem_cons.mpr ⟨Or.inr ⟨_, mo_MD_nearTo⟩, List.forall_mem_cons.mpr ⟨Or.inr ⟨_, mo_MD_alikeOf⟩, List.forall_mem_cons.mpr ⟨Or.inr ⟨_, mo_MD_alike⟩, List.forall_mem_cons.mpr ⟨Or.inr ⟨_, mo_MD_ends⟩, List.forall_mem_cons.mpr ⟨Or.inr ⟨_, mo_MD_isRing⟩, List.forall_mem_cons.mpr ⟨Or.inr ⟨_, mo_MD_ring⟩, (fun _ h => absurd h List.not_mem_nil)⟩⟩⟩⟩⟩⟩⟩⟩⟩⟩⟩⟩⟩⟩⟩⟩⟩⟩⟩⟩
theorem mOKa_7 : ∀ m ∈ mt_7, m = m_LAW_law ∨ ∃ q, mOK m q := List.forall_mem_cons.mpr ⟨Or.inr ⟨_, mo_MD_way⟩, List.forall_mem_cons.mpr ⟨Or.inr ⟨_, mo_MD_rootOf⟩, List.forall_mem_cons.mpr ⟨Or.inr ⟨_, mo_MD_root⟩, List.forall_mem_cons.mpr ⟨Or.inr ⟨_, mo_MD_isAhead⟩, List.forall_mem_cons.mpr ⟨Or.inr ⟨_, mo_MD_order⟩, List.forall_mem_cons.mpr ⟨Or.inr ⟨_, mo_MD_least⟩, List.forall_mem_cons.mpr ⟨Or.inr ⟨_, mo_MD_cold⟩, List.forall_mem_cons.mpr ⟨Or.inr ⟨_, mo_MD_mixed⟩, List.forall_mem_cons.mpr ⟨Or.inr ⟨_, mo_MD_isNew⟩, List.forall_mem_cons.mpr ⟨Or.inr ⟨_, mo_MD_newName⟩, List.forall_mem_cons.mpr ⟨Or.inr ⟨_, mo_MD_mend⟩, List.forall_mem_cons.mpr ⟨Or.inr ⟨_, mo_MD_tieContract⟩, List.forall_mem_cons.mpr ⟨Or.inr ⟨_, mo_MD_pulls⟩, List.forall_mem_cons.mpr ⟨Or.inr ⟨_, mo_MD_isLife⟩, List.forall_mem_cons.mpr ⟨Or.inr ⟨_, mo_MD_layContract⟩, List.forall_mem_cons.mpr ⟨Or.inr ⟨_, mo_MD_lives⟩, List.forall_mem_cons.mpr ⟨Or.inr ⟨_, mo_MD_next⟩, List.forall_mem_cons.mpr ⟨Or.inr ⟨_, mo_MD_porridge⟩, List.forall_mem_cons.mpr ⟨Or.inr ⟨_, mo_MD_share⟩, List.forall_mem_cons.mpr ⟨Or.inr ⟨_, mo_MD_rate⟩, (fun _ h => absurd h List.not_mem_nil)⟩⟩⟩⟩⟩⟩⟩⟩⟩⟩⟩⟩⟩⟩⟩⟩⟩⟩⟩⟩
theorem mOKa_8 : ∀ m ∈ mt_8, m = m_LAW_law ∨ ∃ q, mOK m q := List.forall_mem_cons.mpr ⟨Or.inr ⟨_, mo_MD_keep⟩, List.forall_mem_cons.mpr ⟨Or.inr ⟨_, mo_MD_back⟩, List.forall_mem_cons.mpr ⟨Or.inr ⟨_, mo_MD_count⟩, List.forall_mem_cons.mpr ⟨Or.inr ⟨_, mo_MD_trace⟩, List.forall_mem_cons.mpr ⟨Or.inr ⟨_, mo_JInt_compare⟩, List.forall_mem_cons.mpr ⟨Or.inr ⟨_, mo_JInt_bitCount⟩, List.forall_mem_cons.mpr ⟨Or.inr ⟨_, mo_JStr_length⟩, List.forall_mem_cons.mpr ⟨Or.inr ⟨_, mo_JStr_indexOf⟩, List.forall_mem_cons.mpr ⟨Or.inr ⟨_, mo_JStr_indexOf2⟩, List.forall_mem_cons.mpr ⟨Or.inr ⟨_, mo_JStr_coder⟩, List.forall_mem_cons.mpr ⟨Or.inr ⟨_, mo_JStr_isLatin1⟩, List.forall_mem_cons.mpr ⟨Or.inr ⟨_, mo_JLat_canEncode⟩, List.forall_mem_cons.mpr ⟨Or.inr ⟨_, mo_JLat_indexOf⟩, List.forall_mem_cons.mpr ⟨Or.inr ⟨_, mo_JLat_indexOfChar⟩, List.forall_mem_cons.mpr ⟨Or.inl rfl, (fun _ h => absurd h List.not_mem_nil)⟩⟩⟩⟩⟩⟩⟩⟩⟩⟩⟩⟩⟩⟩⟩
theorem mOK_all : ∀ m ∈ mt, m = m_LAW_law ∨ ∃ q, mOK m q := List.forall_mem_append.mpr ⟨mOKa_0, List.forall_mem_append.mpr ⟨mOKa_1, List.forall_mem_append.mpr ⟨mOKa_2, List.forall_mem_append.mpr ⟨mOKa_3, List.forall_mem_append.mpr ⟨mOKa_4, List.forall_mem_append.mpr ⟨mOKa_5, List.forall_mem_append.mpr ⟨mOKa_6, List.forall_mem_append.mpr ⟨mOKa_7, mOKa_8⟩⟩⟩⟩⟩⟩⟩⟩
theorem zip_at {α β : Type} {as : List α} {bs : List β} {i : Nat} {a : α} (h : as[i]? = some a) (hl : as.length = bs.length) : ∃ b, (a, b) ∈ as.zip bs := by
  have hi := (List.getElem?_eq_some_iff.mp h).1
  have hb : bs[i]? = some (bs[i]'(by omega)) := List.getElem?_eq_getElem (by omega)
  exact ⟨_, List.mem_of_getElem? (i := i) (by rw [List.getElem?_zip_eq_some]; exact ⟨h, hb⟩)⟩
