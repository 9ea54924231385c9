-- ===== PART A: goes FIRST, ahead of the names: the tables' words, and 'selects' of the private methods out of them =====
/-- a private method of a class that the tables say can be made, by its rows of tables_1 -/
def lw_okq (q : MethodName × Nat) : Prop := (q.1.cls ≠ "java/lang/invoke/MethodHandle" ∧ q.1.cls ≠ "java/lang/invoke/VarHandle") ∧ Cond.instantiable q.1.cls q.2 ∈ tables_1 ∧ Cond.privateMethod q.1 ∈ tables_1 ∧ Cond.instanceMethod q.1 ∈ tables_1
theorem lw_p0 : lw_okq (⟨"SeamCell$Cell", "entersBar", "(IIIII)Z"⟩, 12) := ⟨⟨by decide +kernel, by decide +kernel⟩, List.mem_of_getElem? (i := 23) (by decide +kernel), List.mem_of_getElem? (i := 477) (by decide +kernel), List.mem_of_getElem? (i := 478) (by decide +kernel)⟩
theorem lw_p1 : lw_okq (⟨"SeamCell$Part", "areClose", "(IIII)Z"⟩, 4) := ⟨⟨by decide +kernel, by decide +kernel⟩, List.mem_of_getElem? (i := 75) (by decide +kernel), List.mem_of_getElem? (i := 506) (by decide +kernel), List.mem_of_getElem? (i := 507) (by decide +kernel)⟩
theorem lw_p2 : lw_okq (⟨"SeamCell$Plan", "cooledFor", "(I)I"⟩, 8) := ⟨⟨by decide +kernel, by decide +kernel⟩, List.mem_of_getElem? (i := 178) (by decide +kernel), List.mem_of_getElem? (i := 552) (by decide +kernel), List.mem_of_getElem? (i := 553) (by decide +kernel)⟩
theorem lw_p3 : lw_okq (⟨"SeamCell$Search", "noteSeams", "()V"⟩, 14) := ⟨⟨by decide +kernel, by decide +kernel⟩, List.mem_of_getElem? (i := 215) (by decide +kernel), List.mem_of_getElem? (i := 587) (by decide +kernel), List.mem_of_getElem? (i := 588) (by decide +kernel)⟩
theorem lw_p4 : lw_okq (⟨"SeamCell$Search", "noteMoves", "()V"⟩, 14) := ⟨⟨by decide +kernel, by decide +kernel⟩, List.mem_of_getElem? (i := 215) (by decide +kernel), List.mem_of_getElem? (i := 594) (by decide +kernel), List.mem_of_getElem? (i := 595) (by decide +kernel)⟩
theorem lw_p5 : lw_okq (⟨"SeamCell$Search", "noteMovesFrom", "(IIII)V"⟩, 14) := ⟨⟨by decide +kernel, by decide +kernel⟩, List.mem_of_getElem? (i := 215) (by decide +kernel), List.mem_of_getElem? (i := 598) (by decide +kernel), List.mem_of_getElem? (i := 599) (by decide +kernel)⟩
theorem lw_p6 : lw_okq (⟨"SeamCell$Search", "noteLeasts", "()V"⟩, 14) := ⟨⟨by decide +kernel, by decide +kernel⟩, List.mem_of_getElem? (i := 215) (by decide +kernel), List.mem_of_getElem? (i := 606) (by decide +kernel), List.mem_of_getElem? (i := 607) (by decide +kernel)⟩
theorem lw_p7 : lw_okq (⟨"SeamCell$Search", "areNear", "(II)Z"⟩, 14) := ⟨⟨by decide +kernel, by decide +kernel⟩, List.mem_of_getElem? (i := 215) (by decide +kernel), List.mem_of_getElem? (i := 611) (by decide +kernel), List.mem_of_getElem? (i := 612) (by decide +kernel)⟩
theorem lw_p8 : lw_okq (⟨"SeamCell$Search", "keep", "(I)V"⟩, 14) := ⟨⟨by decide +kernel, by decide +kernel⟩, List.mem_of_getElem? (i := 215) (by decide +kernel), List.mem_of_getElem? (i := 619) (by decide +kernel), List.mem_of_getElem? (i := 620) (by decide +kernel)⟩
theorem lw_p9 : lw_okq (⟨"SeamCell$Search", "cooledFor", "(II)I"⟩, 14) := ⟨⟨by decide +kernel, by decide +kernel⟩, List.mem_of_getElem? (i := 215) (by decide +kernel), List.mem_of_getElem? (i := 623) (by decide +kernel), List.mem_of_getElem? (i := 624) (by decide +kernel)⟩
theorem lw_p10 : lw_okq (⟨"SeamCell$Search", "leastLeft", "(II)I"⟩, 14) := ⟨⟨by decide +kernel, by decide +kernel⟩, List.mem_of_getElem? (i := 215) (by decide +kernel), List.mem_of_getElem? (i := 627) (by decide +kernel), List.mem_of_getElem? (i := 628) (by decide +kernel)⟩
theorem lw_p11 : lw_okq (⟨"SeamCell$Crew", "note", "(I)V"⟩, 5) := ⟨⟨by decide +kernel, by decide +kernel⟩, List.mem_of_getElem? (i := 288) (by decide +kernel), List.mem_of_getElem? (i := 697) (by decide +kernel), List.mem_of_getElem? (i := 698) (by decide +kernel)⟩
theorem lw_p12 : lw_okq (⟨"SeamCell$Crew", "weave", "()V"⟩, 5) := ⟨⟨by decide +kernel, by decide +kernel⟩, List.mem_of_getElem? (i := 288) (by decide +kernel), List.mem_of_getElem? (i := 713) (by decide +kernel), List.mem_of_getElem? (i := 714) (by decide +kernel)⟩
theorem lw_p13 : lw_okq (⟨"SeamCell$Crew", "firstGoes", "(II)Z"⟩, 5) := ⟨⟨by decide +kernel, by decide +kernel⟩, List.mem_of_getElem? (i := 288) (by decide +kernel), List.mem_of_getElem? (i := 717) (by decide +kernel), List.mem_of_getElem? (i := 718) (by decide +kernel)⟩
theorem lw_p14 : lw_okq (⟨"SeamCell$Crew", "secondGoes", "(II)Z"⟩, 5) := ⟨⟨by decide +kernel, by decide +kernel⟩, List.mem_of_getElem? (i := 288) (by decide +kernel), List.mem_of_getElem? (i := 722) (by decide +kernel), List.mem_of_getElem? (i := 723) (by decide +kernel)⟩
theorem lw_p15 : lw_okq (⟨"SeamCell$Crew", "isLock", "(II)Z"⟩, 5) := ⟨⟨by decide +kernel, by decide +kernel⟩, List.mem_of_getElem? (i := 288) (by decide +kernel), List.mem_of_getElem? (i := 734) (by decide +kernel), List.mem_of_getElem? (i := 735) (by decide +kernel)⟩
def lw_privs_1 : List (MethodName × Nat) := [(⟨"SeamCell$Cell", "entersBar", "(IIIII)Z"⟩, 12), (⟨"SeamCell$Part", "areClose", "(IIII)Z"⟩, 4), (⟨"SeamCell$Plan", "cooledFor", "(I)I"⟩, 8), (⟨"SeamCell$Search", "noteSeams", "()V"⟩, 14), (⟨"SeamCell$Search", "noteMoves", "()V"⟩, 14), (⟨"SeamCell$Search", "noteMovesFrom", "(IIII)V"⟩, 14), (⟨"SeamCell$Search", "noteLeasts", "()V"⟩, 14), (⟨"SeamCell$Search", "areNear", "(II)Z"⟩, 14), (⟨"SeamCell$Search", "keep", "(I)V"⟩, 14), (⟨"SeamCell$Search", "cooledFor", "(II)I"⟩, 14), (⟨"SeamCell$Search", "leastLeft", "(II)I"⟩, 14), (⟨"SeamCell$Crew", "note", "(I)V"⟩, 5), (⟨"SeamCell$Crew", "weave", "()V"⟩, 5), (⟨"SeamCell$Crew", "firstGoes", "(II)Z"⟩, 5), (⟨"SeamCell$Crew", "secondGoes", "(II)Z"⟩, 5), (⟨"SeamCell$Crew", "isLock", "(II)Z"⟩, 5)]
theorem lw_r1 : ∀ q ∈ lw_privs_1, lw_okq q := List.forall_mem_cons.mpr ⟨lw_p0, List.forall_mem_cons.mpr ⟨lw_p1, List.forall_mem_cons.mpr ⟨lw_p2, List.forall_mem_cons.mpr ⟨lw_p3, List.forall_mem_cons.mpr ⟨lw_p4, List.forall_mem_cons.mpr ⟨lw_p5, List.forall_mem_cons.mpr ⟨lw_p6, List.forall_mem_cons.mpr ⟨lw_p7, List.forall_mem_cons.mpr ⟨lw_p8, List.forall_mem_cons.mpr ⟨lw_p9, List.forall_mem_cons.mpr ⟨lw_p10, List.forall_mem_cons.mpr ⟨lw_p11, List.forall_mem_cons.mpr ⟨lw_p12, List.forall_mem_cons.mpr ⟨lw_p13, List.forall_mem_cons.mpr ⟨lw_p14, List.forall_mem_cons.mpr ⟨lw_p15, fun _ h => absurd h List.not_mem_nil⟩⟩⟩⟩⟩⟩⟩⟩⟩⟩⟩⟩⟩⟩⟩⟩
theorem lw_p16 : lw_okq (⟨"SeamCellModel", "shutAnew", "()V"⟩, 41) := ⟨⟨by decide +kernel, by decide +kernel⟩, List.mem_of_getElem? (i := 746) (by decide +kernel), List.mem_of_getElem? (i := 752) (by decide +kernel), List.mem_of_getElem? (i := 753) (by decide +kernel)⟩
theorem lw_p17 : lw_okq (⟨"SeamCellModel", "isSeam", "(I)Z"⟩, 41) := ⟨⟨by decide +kernel, by decide +kernel⟩, List.mem_of_getElem? (i := 746) (by decide +kernel), List.mem_of_getElem? (i := 932) (by decide +kernel), List.mem_of_getElem? (i := 933) (by decide +kernel)⟩
theorem lw_p18 : lw_okq (⟨"SeamCellModel", "quarterOf", "(I)I"⟩, 41) := ⟨⟨by decide +kernel, by decide +kernel⟩, List.mem_of_getElem? (i := 746) (by decide +kernel), List.mem_of_getElem? (i := 936) (by decide +kernel), List.mem_of_getElem? (i := 937) (by decide +kernel)⟩
theorem lw_p19 : lw_okq (⟨"SeamCellModel", "lacking", "(II)I"⟩, 41) := ⟨⟨by decide +kernel, by decide +kernel⟩, List.mem_of_getElem? (i := 746) (by decide +kernel), List.mem_of_getElem? (i := 940) (by decide +kernel), List.mem_of_getElem? (i := 941) (by decide +kernel)⟩
theorem lw_p20 : lw_okq (⟨"SeamCellModel", "placeOf", "(IIII)I"⟩, 41) := ⟨⟨by decide +kernel, by decide +kernel⟩, List.mem_of_getElem? (i := 746) (by decide +kernel), List.mem_of_getElem? (i := 944) (by decide +kernel), List.mem_of_getElem? (i := 945) (by decide +kernel)⟩
theorem lw_p21 : lw_okq (⟨"SeamCellModel", "isWithin", "(IIII)Z"⟩, 41) := ⟨⟨by decide +kernel, by decide +kernel⟩, List.mem_of_getElem? (i := 746) (by decide +kernel), List.mem_of_getElem? (i := 948) (by decide +kernel), List.mem_of_getElem? (i := 949) (by decide +kernel)⟩
theorem lw_p22 : lw_okq (⟨"SeamCellModel", "isFree", "(IIII)Z"⟩, 41) := ⟨⟨by decide +kernel, by decide +kernel⟩, List.mem_of_getElem? (i := 746) (by decide +kernel), List.mem_of_getElem? (i := 955) (by decide +kernel), List.mem_of_getElem? (i := 956) (by decide +kernel)⟩
theorem lw_p23 : lw_okq (⟨"SeamCellModel", "goesThrough", "(IIIII)Z"⟩, 41) := ⟨⟨by decide +kernel, by decide +kernel⟩, List.mem_of_getElem? (i := 746) (by decide +kernel), List.mem_of_getElem? (i := 959) (by decide +kernel), List.mem_of_getElem? (i := 960) (by decide +kernel)⟩
theorem lw_p24 : lw_okq (⟨"SeamCellModel", "shutIn", "(IIII)Z"⟩, 41) := ⟨⟨by decide +kernel, by decide +kernel⟩, List.mem_of_getElem? (i := 746) (by decide +kernel), List.mem_of_getElem? (i := 965) (by decide +kernel), List.mem_of_getElem? (i := 966) (by decide +kernel)⟩
theorem lw_p25 : lw_okq (⟨"SeamCellModel", "lengthOf", "(I)I"⟩, 41) := ⟨⟨by decide +kernel, by decide +kernel⟩, List.mem_of_getElem? (i := 746) (by decide +kernel), List.mem_of_getElem? (i := 972) (by decide +kernel), List.mem_of_getElem? (i := 973) (by decide +kernel)⟩
theorem lw_p26 : lw_okq (⟨"SeamCellModel", "timeOf", "(I)I"⟩, 41) := ⟨⟨by decide +kernel, by decide +kernel⟩, List.mem_of_getElem? (i := 746) (by decide +kernel), List.mem_of_getElem? (i := 976) (by decide +kernel), List.mem_of_getElem? (i := 977) (by decide +kernel)⟩
theorem lw_p27 : lw_okq (⟨"SeamCellModel", "areNear", "(II)Z"⟩, 41) := ⟨⟨by decide +kernel, by decide +kernel⟩, List.mem_of_getElem? (i := 746) (by decide +kernel), List.mem_of_getElem? (i := 992) (by decide +kernel), List.mem_of_getElem? (i := 993) (by decide +kernel)⟩
theorem lw_p28 : lw_okq (⟨"SeamCellModel", "findQuarters", "()Z"⟩, 41) := ⟨⟨by decide +kernel, by decide +kernel⟩, List.mem_of_getElem? (i := 746) (by decide +kernel), List.mem_of_getElem? (i := 1013) (by decide +kernel), List.mem_of_getElem? (i := 1014) (by decide +kernel)⟩
theorem lw_p29 : lw_okq (⟨"SeamCellModel", "workRow", "()V"⟩, 41) := ⟨⟨by decide +kernel, by decide +kernel⟩, List.mem_of_getElem? (i := 746) (by decide +kernel), List.mem_of_getElem? (i := 1017) (by decide +kernel), List.mem_of_getElem? (i := 1018) (by decide +kernel)⟩
theorem lw_p30 : lw_okq (⟨"SeamCellModel", "workAt", "(I)V"⟩, 41) := ⟨⟨by decide +kernel, by decide +kernel⟩, List.mem_of_getElem? (i := 746) (by decide +kernel), List.mem_of_getElem? (i := 1021) (by decide +kernel), List.mem_of_getElem? (i := 1022) (by decide +kernel)⟩
theorem lw_p31 : lw_okq (⟨"SeamCellModel", "keepRow", "()V"⟩, 41) := ⟨⟨by decide +kernel, by decide +kernel⟩, List.mem_of_getElem? (i := 746) (by decide +kernel), List.mem_of_getElem? (i := 1033) (by decide +kernel), List.mem_of_getElem? (i := 1034) (by decide +kernel)⟩
def lw_privs_2 : List (MethodName × Nat) := [(⟨"SeamCellModel", "shutAnew", "()V"⟩, 41), (⟨"SeamCellModel", "isSeam", "(I)Z"⟩, 41), (⟨"SeamCellModel", "quarterOf", "(I)I"⟩, 41), (⟨"SeamCellModel", "lacking", "(II)I"⟩, 41), (⟨"SeamCellModel", "placeOf", "(IIII)I"⟩, 41), (⟨"SeamCellModel", "isWithin", "(IIII)Z"⟩, 41), (⟨"SeamCellModel", "isFree", "(IIII)Z"⟩, 41), (⟨"SeamCellModel", "goesThrough", "(IIIII)Z"⟩, 41), (⟨"SeamCellModel", "shutIn", "(IIII)Z"⟩, 41), (⟨"SeamCellModel", "lengthOf", "(I)I"⟩, 41), (⟨"SeamCellModel", "timeOf", "(I)I"⟩, 41), (⟨"SeamCellModel", "areNear", "(II)Z"⟩, 41), (⟨"SeamCellModel", "findQuarters", "()Z"⟩, 41), (⟨"SeamCellModel", "workRow", "()V"⟩, 41), (⟨"SeamCellModel", "workAt", "(I)V"⟩, 41), (⟨"SeamCellModel", "keepRow", "()V"⟩, 41)]
theorem lw_r2 : ∀ q ∈ lw_privs_2, lw_okq q := List.forall_mem_cons.mpr ⟨lw_p16, List.forall_mem_cons.mpr ⟨lw_p17, List.forall_mem_cons.mpr ⟨lw_p18, List.forall_mem_cons.mpr ⟨lw_p19, List.forall_mem_cons.mpr ⟨lw_p20, List.forall_mem_cons.mpr ⟨lw_p21, List.forall_mem_cons.mpr ⟨lw_p22, List.forall_mem_cons.mpr ⟨lw_p23, List.forall_mem_cons.mpr ⟨lw_p24, List.forall_mem_cons.mpr ⟨lw_p25, List.forall_mem_cons.mpr ⟨lw_p26, List.forall_mem_cons.mpr ⟨lw_p27, List.forall_mem_cons.mpr ⟨lw_p28, List.forall_mem_cons.mpr ⟨lw_p29, List.forall_mem_cons.mpr ⟨lw_p30, List.forall_mem_cons.mpr ⟨lw_p31, fun _ h => absurd h List.not_mem_nil⟩⟩⟩⟩⟩⟩⟩⟩⟩⟩⟩⟩⟩⟩⟩⟩
theorem lw_p32 : lw_okq (⟨"SeamCellModel", "zonesOf", "(II)I"⟩, 41) := ⟨⟨by decide +kernel, by decide +kernel⟩, List.mem_of_getElem? (i := 746) (by decide +kernel), List.mem_of_getElem? (i := 1057) (by decide +kernel), List.mem_of_getElem? (i := 1058) (by decide +kernel)⟩
theorem lw_p33 : lw_okq (⟨"SeamCellModel", "numberOf", "(II)I"⟩, 41) := ⟨⟨by decide +kernel, by decide +kernel⟩, List.mem_of_getElem? (i := 746) (by decide +kernel), List.mem_of_getElem? (i := 1061) (by decide +kernel), List.mem_of_getElem? (i := 1062) (by decide +kernel)⟩
theorem lw_p34 : lw_okq (⟨"SeamCellModel", "kindOf", "(II)I"⟩, 41) := ⟨⟨by decide +kernel, by decide +kernel⟩, List.mem_of_getElem? (i := 746) (by decide +kernel), List.mem_of_getElem? (i := 1065) (by decide +kernel), List.mem_of_getElem? (i := 1066) (by decide +kernel)⟩
theorem lw_p35 : lw_okq (⟨"SeamCellModel", "isOver", "(I)Z"⟩, 41) := ⟨⟨by decide +kernel, by decide +kernel⟩, List.mem_of_getElem? (i := 746) (by decide +kernel), List.mem_of_getElem? (i := 1073) (by decide +kernel), List.mem_of_getElem? (i := 1074) (by decide +kernel)⟩
theorem lw_p36 : lw_okq (⟨"SeamCellModel", "goes", "(I)Z"⟩, 41) := ⟨⟨by decide +kernel, by decide +kernel⟩, List.mem_of_getElem? (i := 746) (by decide +kernel), List.mem_of_getElem? (i := 1077) (by decide +kernel), List.mem_of_getElem? (i := 1078) (by decide +kernel)⟩
theorem lw_p37 : lw_okq (⟨"SeamCellModel", "waits", "(III)Z"⟩, 41) := ⟨⟨by decide +kernel, by decide +kernel⟩, List.mem_of_getElem? (i := 746) (by decide +kernel), List.mem_of_getElem? (i := 1081) (by decide +kernel), List.mem_of_getElem? (i := 1082) (by decide +kernel)⟩
theorem lw_p38 : lw_okq (⟨"SeamCellModel", "findWeb", "()I"⟩, 41) := ⟨⟨by decide +kernel, by decide +kernel⟩, List.mem_of_getElem? (i := 746) (by decide +kernel), List.mem_of_getElem? (i := 1093) (by decide +kernel), List.mem_of_getElem? (i := 1094) (by decide +kernel)⟩
theorem lw_p39 : lw_okq (⟨"SeamCellModel", "canDo", "(III)Z"⟩, 41) := ⟨⟨by decide +kernel, by decide +kernel⟩, List.mem_of_getElem? (i := 746) (by decide +kernel), List.mem_of_getElem? (i := 1097) (by decide +kernel), List.mem_of_getElem? (i := 1098) (by decide +kernel)⟩
def lw_privs_3 : List (MethodName × Nat) := [(⟨"SeamCellModel", "zonesOf", "(II)I"⟩, 41), (⟨"SeamCellModel", "numberOf", "(II)I"⟩, 41), (⟨"SeamCellModel", "kindOf", "(II)I"⟩, 41), (⟨"SeamCellModel", "isOver", "(I)Z"⟩, 41), (⟨"SeamCellModel", "goes", "(I)Z"⟩, 41), (⟨"SeamCellModel", "waits", "(III)Z"⟩, 41), (⟨"SeamCellModel", "findWeb", "()I"⟩, 41), (⟨"SeamCellModel", "canDo", "(III)Z"⟩, 41)]
theorem lw_r3 : ∀ q ∈ lw_privs_3, lw_okq q := List.forall_mem_cons.mpr ⟨lw_p32, List.forall_mem_cons.mpr ⟨lw_p33, List.forall_mem_cons.mpr ⟨lw_p34, List.forall_mem_cons.mpr ⟨lw_p35, List.forall_mem_cons.mpr ⟨lw_p36, List.forall_mem_cons.mpr ⟨lw_p37, List.forall_mem_cons.mpr ⟨lw_p38, List.forall_mem_cons.mpr ⟨lw_p39, fun _ h => absurd h List.not_mem_nil⟩⟩⟩⟩⟩⟩⟩⟩
def lw_privs : List (MethodName × Nat) := lw_privs_1 ++ (lw_privs_2 ++ (lw_privs_3))
def lw_tbl : List Cond := k2_sels lw_privs ++ tables_1
theorem lw_privs_ok : ∀ q ∈ lw_privs, lw_okq q := by
  show ∀ q ∈ lw_privs_1 ++ (lw_privs_2 ++ (lw_privs_3)), lw_okq q
  exact List.forall_mem_append.mpr ⟨lw_r1, List.forall_mem_append.mpr ⟨lw_r2, lw_r3⟩⟩
/-! the words of the tables that every method may ask for -/
def lgG : List Cond := lw_tbl.filter goodWord
theorem mG {w : Cond} (i : Nat) (h : lw_tbl[i]? = some w) (hg : goodWord w = true) : w ∈ lgG := List.mem_filter.mpr ⟨List.mem_of_getElem? h, hg⟩
abbrev wsG (y : MethodName) (b : ByteArray) (n : Nat) (r : Option FieldType) : List Cond := Cond.code y b n r :: lgG
theorem gG {y : MethodName} {b : ByteArray} {n : Nat} {r : Option FieldType} (h : Cond.code y b n r ∈ lgG) : GoodIn lgG (wsG y b n r) := by
  intro w hw
  have h1 : w ∈ lgG := (List.mem_cons.mp hw).elim (fun e => e ▸ h) id
  exact ⟨h1, good_of_word (List.mem_filter.mp h1).2⟩
theorem lgG_of {args : Array Value} {s : State} (h : ∀ w ∈ lw_tbl, w.before args s = true) : ∀ w ∈ lgG, w.before args s = true := fun w hw => h w (List.mem_filter.mp hw).1
def R_Acts : String := "SeamCell$Acts"
def T_Acts : u_T := fun k => match k with
  | 0 => ("SeamCell$Acts", "kinds", "[I", true)
  | 1 => ("SeamCell$Acts", "sizes", "[I", true)
  | 2 => ("SeamCell$Acts", "zonesBehind", "[I", true)
  | 3 => ("SeamCell$Acts", "count", "I", false)
  | 4 => ("SeamCell$Acts", "done", "I", false)
  | 5 => ("SeamCell$Acts", "workLeft", "I", false)
  | _ => ("SeamCell$Acts", "waits", "I", false)
def ty_Acts : Nat → FieldType := fun k => match k with
  | 0 => .array .int
  | 1 => .array .int
  | 2 => .array .int
  | 3 => .int
  | 4 => .int
  | 5 => .int
  | _ => .int
theorem nm_Acts : ∀ a, a < 7 → ∀ b, b < 7 → a ≠ b → (T_Acts a).2.1 ≠ (T_Acts b).2.1 := by decide +kernel
theorem tyk_Acts : ∀ k, k < 7 → parseFieldDescriptor (T_Acts k).2.2.1 = some (ty_Acts k) := by decide +kernel
def R_Cell : String := "SeamCell$Cell"
def T_Cell : u_T := fun k => match k with
  | 0 => ("SeamCell$Cell", "middleX", "I", false)
  | 1 => ("SeamCell$Cell", "middleY", "I", false)
  | 2 => ("SeamCell$Cell", "shiftX", "I", false)
  | 3 => ("SeamCell$Cell", "shiftY", "I", false)
  | 4 => ("SeamCell$Cell", "linkA", "I", false)
  | 5 => ("SeamCell$Cell", "linkB", "I", false)
  | 6 => ("SeamCell$Cell", "flatness", "I", false)
  | 7 => ("SeamCell$Cell", "barCount", "I", false)
  | 8 => ("SeamCell$Cell", "barX0", "[I", true)
  | 9 => ("SeamCell$Cell", "barY0", "[I", true)
  | 10 => ("SeamCell$Cell", "barX1", "[I", true)
  | _ => ("SeamCell$Cell", "barY1", "[I", true)
def ty_Cell : Nat → FieldType := fun k => match k with
  | 0 => .int
  | 1 => .int
  | 2 => .int
  | 3 => .int
  | 4 => .int
  | 5 => .int
  | 6 => .int
  | 7 => .int
  | 8 => .array .int
  | 9 => .array .int
  | 10 => .array .int
  | _ => .array .int
theorem nm_Cell : ∀ a, a < 12 → ∀ b, b < 12 → a ≠ b → (T_Cell a).2.1 ≠ (T_Cell b).2.1 := by decide +kernel
theorem tyk_Cell : ∀ k, k < 12 → parseFieldDescriptor (T_Cell k).2.2.1 = some (ty_Cell k) := by decide +kernel
def R_Crew : String := "SeamCell$Crew"
def T_Crew : u_T := fun k => match k with
  | 0 => ("SeamCell$Crew", "first", "LSeamCell$Acts;", true)
  | 1 => ("SeamCell$Crew", "second", "LSeamCell$Acts;", true)
  | 2 => ("SeamCell$Crew", "reached", "[Z", true)
  | 3 => ("SeamCell$Crew", "latest", "[I", true)
  | _ => ("SeamCell$Crew", "hasRun", "Z", false)
def ty_Crew : Nat → FieldType := fun k => match k with
  | 0 => .object "SeamCell$Acts"
  | 1 => .object "SeamCell$Acts"
  | 2 => .array .boolean
  | 3 => .array .int
  | _ => .boolean
theorem nm_Crew : ∀ a, a < 5 → ∀ b, b < 5 → a ≠ b → (T_Crew a).2.1 ≠ (T_Crew b).2.1 := by decide +kernel
theorem tyk_Crew : ∀ k, k < 5 → parseFieldDescriptor (T_Crew k).2.2.1 = some (ty_Crew k) := by decide +kernel
def R_Pace : String := "SeamCell$Pace"
def T_Pace : u_T := fun k => match k with
  | 0 => ("SeamCell$Pace", "cell", "LSeamCell$Cell;", true)
  | 1 => ("SeamCell$Pace", "turn", "I", false)
  | 2 => ("SeamCell$Pace", "travel", "I", false)
  | 3 => ("SeamCell$Pace", "lift", "I", false)
  | 4 => ("SeamCell$Pace", "cool", "I", false)
  | 5 => ("SeamCell$Pace", "homeX", "I", false)
  | _ => ("SeamCell$Pace", "homeY", "I", false)
def ty_Pace : Nat → FieldType := fun k => match k with
  | 0 => .object "SeamCell$Cell"
  | 1 => .int
  | 2 => .int
  | 3 => .int
  | 4 => .int
  | 5 => .int
  | _ => .int
theorem nm_Pace : ∀ a, a < 7 → ∀ b, b < 7 → a ≠ b → (T_Pace a).2.1 ≠ (T_Pace b).2.1 := by decide +kernel
theorem tyk_Pace : ∀ k, k < 7 → parseFieldDescriptor (T_Pace k).2.2.1 = some (ty_Pace k) := by decide +kernel
def R_Part : String := "SeamCell$Part"
def T_Part : u_T := fun k => match k with
  | 0 => ("SeamCell$Part", "cell", "LSeamCell$Cell;", true)
  | 1 => ("SeamCell$Part", "seams", "[LSeamCell$Seam;", true)
  | 2 => ("SeamCell$Part", "count", "I", false)
  | _ => ("SeamCell$Part", "gap", "I", false)
def ty_Part : Nat → FieldType := fun k => match k with
  | 0 => .object "SeamCell$Cell"
  | 1 => .array (.object "SeamCell$Seam")
  | 2 => .int
  | _ => .int
theorem nm_Part : ∀ a, a < 4 → ∀ b, b < 4 → a ≠ b → (T_Part a).2.1 ≠ (T_Part b).2.1 := by decide +kernel
theorem tyk_Part : ∀ k, k < 4 → parseFieldDescriptor (T_Part k).2.2.1 = some (ty_Part k) := by decide +kernel
def R_Plan : String := "SeamCell$Plan"
def T_Plan : u_T := fun k => match k with
  | 0 => ("SeamCell$Plan", "part", "LSeamCell$Part;", true)
  | 1 => ("SeamCell$Plan", "pace", "LSeamCell$Pace;", true)
  | 2 => ("SeamCell$Plan", "seam", "[I", true)
  | 3 => ("SeamCell$Plan", "way", "[I", true)
  | 4 => ("SeamCell$Plan", "begin", "[I", true)
  | 5 => ("SeamCell$Plan", "end", "[I", true)
  | 6 => ("SeamCell$Plan", "rested", "[I", true)
  | _ => ("SeamCell$Plan", "count", "I", false)
def ty_Plan : Nat → FieldType := fun k => match k with
  | 0 => .object "SeamCell$Part"
  | 1 => .object "SeamCell$Pace"
  | 2 => .array .int
  | 3 => .array .int
  | 4 => .array .int
  | 5 => .array .int
  | 6 => .array .int
  | _ => .int
theorem nm_Plan : ∀ a, a < 8 → ∀ b, b < 8 → a ≠ b → (T_Plan a).2.1 ≠ (T_Plan b).2.1 := by decide +kernel
theorem tyk_Plan : ∀ k, k < 8 → parseFieldDescriptor (T_Plan k).2.2.1 = some (ty_Plan k) := by decide +kernel
def R_Seam : String := "SeamCell$Seam"
def T_Seam : u_T := fun k => match k with
  | 0 => ("SeamCell$Seam", "x0", "I", false)
  | 1 => ("SeamCell$Seam", "y0", "I", false)
  | 2 => ("SeamCell$Seam", "x1", "I", false)
  | 3 => ("SeamCell$Seam", "y1", "I", false)
  | 4 => ("SeamCell$Seam", "length", "I", false)
  | 5 => ("SeamCell$Seam", "time", "I", false)
  | _ => ("SeamCell$Seam", "heat", "I", false)
def ty_Seam : Nat → FieldType := fun k => match k with
  | 0 => .int
  | 1 => .int
  | 2 => .int
  | 3 => .int
  | 4 => .int
  | 5 => .int
  | _ => .int
theorem nm_Seam : ∀ a, a < 7 → ∀ b, b < 7 → a ≠ b → (T_Seam a).2.1 ≠ (T_Seam b).2.1 := by decide +kernel
theorem tyk_Seam : ∀ k, k < 7 → parseFieldDescriptor (T_Seam k).2.2.1 = some (ty_Seam k) := by decide +kernel
def R_Search : String := "SeamCell$Search"
def T_Search : u_T := fun k => match k with
  | 0 => ("SeamCell$Search", "part", "LSeamCell$Part;", true)
  | 1 => ("SeamCell$Search", "pace", "LSeamCell$Pace;", true)
  | 2 => ("SeamCell$Search", "quarter", "[I", true)
  | 3 => ("SeamCell$Search", "time", "[I", true)
  | 4 => ("SeamCell$Search", "rest", "[I", true)
  | 5 => ("SeamCell$Search", "nearMask", "[I", true)
  | 6 => ("SeamCell$Search", "leastAhead", "[I", true)
  | 7 => ("SeamCell$Search", "leastBehind", "[I", true)
  | 8 => ("SeamCell$Search", "cooled", "[I", true)
  | 9 => ("SeamCell$Search", "move", "[[I", true)
  | 10 => ("SeamCell$Search", "steps", "[I", true)
  | 11 => ("SeamCell$Search", "found", "[I", true)
  | 12 => ("SeamCell$Search", "count", "I", false)
  | _ => ("SeamCell$Search", "foundEnd", "I", false)
def ty_Search : Nat → FieldType := fun k => match k with
  | 0 => .object "SeamCell$Part"
  | 1 => .object "SeamCell$Pace"
  | 2 => .array .int
  | 3 => .array .int
  | 4 => .array .int
  | 5 => .array .int
  | 6 => .array .int
  | 7 => .array .int
  | 8 => .array .int
  | 9 => .array (.array .int)
  | 10 => .array .int
  | 11 => .array .int
  | 12 => .int
  | _ => .int
theorem nm_Search : ∀ a, a < 14 → ∀ b, b < 14 → a ≠ b → (T_Search a).2.1 ≠ (T_Search b).2.1 := by decide +kernel
theorem tyk_Search : ∀ k, k < 14 → parseFieldDescriptor (T_Search k).2.2.1 = some (ty_Search k) := by decide +kernel
def R_Touches : String := "SeamCell$Touches"
def T_Touches : u_T := fun k => match k with
  | 0 => ("SeamCell$Touches", "low", "[I", true)
  | 1 => ("SeamCell$Touches", "high", "[I", true)
  | _ => ("SeamCell$Touches", "count", "I", false)
def ty_Touches : Nat → FieldType := fun k => match k with
  | 0 => .array .int
  | 1 => .array .int
  | _ => .int
theorem nm_Touches : ∀ a, a < 3 → ∀ b, b < 3 → a ≠ b → (T_Touches a).2.1 ≠ (T_Touches b).2.1 := by decide +kernel
theorem tyk_Touches : ∀ k, k < 3 → parseFieldDescriptor (T_Touches k).2.2.1 = some (ty_Touches k) := by decide +kernel
def R_SeamCell : String := "SeamCell"
def T_SeamCell : u_T := fun k => match k with
  | 0 => ("SeamCell", "cell", "LSeamCell$Cell;", true)
  | 1 => ("SeamCell", "part", "LSeamCell$Part;", true)
  | 2 => ("SeamCell", "pace", "LSeamCell$Pace;", true)
  | 3 => ("SeamCell", "plan", "LSeamCell$Plan;", true)
  | 4 => ("SeamCell", "search", "LSeamCell$Search;", true)
  | 5 => ("SeamCell", "touches", "LSeamCell$Touches;", true)
  | _ => ("SeamCell", "crew", "LSeamCell$Crew;", true)
def ty_SeamCell : Nat → FieldType := fun k => match k with
  | 0 => .object "SeamCell$Cell"
  | 1 => .object "SeamCell$Part"
  | 2 => .object "SeamCell$Pace"
  | 3 => .object "SeamCell$Plan"
  | 4 => .object "SeamCell$Search"
  | 5 => .object "SeamCell$Touches"
  | _ => .object "SeamCell$Crew"
theorem nm_SeamCell : ∀ a, a < 7 → ∀ b, b < 7 → a ≠ b → (T_SeamCell a).2.1 ≠ (T_SeamCell b).2.1 := by decide +kernel
theorem tyk_SeamCell : ∀ k, k < 7 → parseFieldDescriptor (T_SeamCell k).2.2.1 = some (ty_SeamCell k) := by decide +kernel
def R_Model : String := "SeamCellModel"
def T_Model : u_T := fun k => match k with
  | 0 => ("SeamCellModel", "middleX", "I", false)
  | 1 => ("SeamCellModel", "middleY", "I", false)
  | 2 => ("SeamCellModel", "linkA", "I", false)
  | 3 => ("SeamCellModel", "linkB", "I", false)
  | 4 => ("SeamCellModel", "flatness", "I", false)
  | 5 => ("SeamCellModel", "gap", "I", false)
  | 6 => ("SeamCellModel", "turn", "I", false)
  | 7 => ("SeamCellModel", "travel", "I", false)
  | 8 => ("SeamCellModel", "lift", "I", false)
  | 9 => ("SeamCellModel", "cool", "I", false)
  | 10 => ("SeamCellModel", "homeX", "I", false)
  | 11 => ("SeamCellModel", "homeY", "I", false)
  | 12 => ("SeamCellModel", "bars", "[I", true)
  | 13 => ("SeamCellModel", "barMany", "I", false)
  | 14 => ("SeamCellModel", "seams", "[I", true)
  | 15 => ("SeamCellModel", "seamMany", "I", false)
  | 16 => ("SeamCellModel", "rowSeam", "[I", true)
  | 17 => ("SeamCellModel", "rowWay", "[I", true)
  | 18 => ("SeamCellModel", "rowMany", "I", false)
  | 19 => ("SeamCellModel", "lowUp", "J", false)
  | 20 => ("SeamCellModel", "lowDown", "J", false)
  | 21 => ("SeamCellModel", "highUp", "J", false)
  | 22 => ("SeamCellModel", "highDown", "J", false)
  | 23 => ("SeamCellModel", "quarters", "[I", true)
  | 24 => ("SeamCellModel", "begins", "[I", true)
  | 25 => ("SeamCellModel", "ends", "[I", true)
  | 26 => ("SeamCellModel", "rests", "[I", true)
  | 27 => ("SeamCellModel", "bestRow", "[I", true)
  | 28 => ("SeamCellModel", "lows", "[I", true)
  | 29 => ("SeamCellModel", "highs", "[I", true)
  | 30 => ("SeamCellModel", "touchMany", "I", false)
  | 31 => ("SeamCellModel", "shiftX", "I", false)
  | 32 => ("SeamCellModel", "shiftY", "I", false)
  | 33 => ("SeamCellModel", "acts", "[I", true)
  | 34 => ("SeamCellModel", "actMany", "[I", true)
  | 35 => ("SeamCellModel", "done", "[I", true)
  | 36 => ("SeamCellModel", "left", "[I", true)
  | 37 => ("SeamCellModel", "waited", "[I", true)
  | 38 => ("SeamCellModel", "ran", "[I", true)
  | 39 => ("SeamCellModel", "hasRun", "Z", false)
  | _ => ("SeamCellModel", "reached", "[Z", true)
def ty_Model : Nat → FieldType := fun k => match k with
  | 0 => .int
  | 1 => .int
  | 2 => .int
  | 3 => .int
  | 4 => .int
  | 5 => .int
  | 6 => .int
  | 7 => .int
  | 8 => .int
  | 9 => .int
  | 10 => .int
  | 11 => .int
  | 12 => .array .int
  | 13 => .int
  | 14 => .array .int
  | 15 => .int
  | 16 => .array .int
  | 17 => .array .int
  | 18 => .int
  | 19 => .long
  | 20 => .long
  | 21 => .long
  | 22 => .long
  | 23 => .array .int
  | 24 => .array .int
  | 25 => .array .int
  | 26 => .array .int
  | 27 => .array .int
  | 28 => .array .int
  | 29 => .array .int
  | 30 => .int
  | 31 => .int
  | 32 => .int
  | 33 => .array .int
  | 34 => .array .int
  | 35 => .array .int
  | 36 => .array .int
  | 37 => .array .int
  | 38 => .array .int
  | 39 => .boolean
  | _ => .array .boolean
theorem nm_Model : ∀ a, a < 41 → ∀ b, b < 41 → a ≠ b → (T_Model a).2.1 ≠ (T_Model b).2.1 := by decide +kernel
theorem tyk_Model : ∀ k, k < 41 → parseFieldDescriptor (T_Model k).2.2.1 = some (ty_Model k) := by decide +kernel
abbrev vwCl : List vw_C := [(R_Acts, T_Acts, 7), (R_Cell, T_Cell, 12), (R_Crew, T_Crew, 5), (R_Pace, T_Pace, 7), (R_Part, T_Part, 4), (R_Plan, T_Plan, 8), (R_Seam, T_Seam, 7), (R_Search, T_Search, 14), (R_Touches, T_Touches, 3), (R_SeamCell, T_SeamCell, 7), (R_Model, T_Model, 41)]
theorem in_Acts : ∀ w ∈ u_ws R_Acts T_Acts 7, w ∈ lgG := by
  have h : (u_ws R_Acts T_Acts 7).all (fun w => decide (w ∈ lw_tbl) && goodWord w) = true := by decide +kernel
  intro w hw
  have h1 := List.all_eq_true.mp h w hw
  simp only [Bool.and_eq_true, decide_eq_true_eq] at h1
  exact List.mem_filter.mpr h1
theorem in_Cell : ∀ w ∈ u_ws R_Cell T_Cell 12, w ∈ lgG := by
  have h : (u_ws R_Cell T_Cell 12).all (fun w => decide (w ∈ lw_tbl) && goodWord w) = true := by decide +kernel
  intro w hw
  have h1 := List.all_eq_true.mp h w hw
  simp only [Bool.and_eq_true, decide_eq_true_eq] at h1
  exact List.mem_filter.mpr h1
theorem in_Crew : ∀ w ∈ u_ws R_Crew T_Crew 5, w ∈ lgG := by
  have h : (u_ws R_Crew T_Crew 5).all (fun w => decide (w ∈ lw_tbl) && goodWord w) = true := by decide +kernel
  intro w hw
  have h1 := List.all_eq_true.mp h w hw
  simp only [Bool.and_eq_true, decide_eq_true_eq] at h1
  exact List.mem_filter.mpr h1
theorem in_Pace : ∀ w ∈ u_ws R_Pace T_Pace 7, w ∈ lgG := by
  have h : (u_ws R_Pace T_Pace 7).all (fun w => decide (w ∈ lw_tbl) && goodWord w) = true := by decide +kernel
  intro w hw
  have h1 := List.all_eq_true.mp h w hw
  simp only [Bool.and_eq_true, decide_eq_true_eq] at h1
  exact List.mem_filter.mpr h1
theorem in_Part : ∀ w ∈ u_ws R_Part T_Part 4, w ∈ lgG := by
  have h : (u_ws R_Part T_Part 4).all (fun w => decide (w ∈ lw_tbl) && goodWord w) = true := by decide +kernel
  intro w hw
  have h1 := List.all_eq_true.mp h w hw
  simp only [Bool.and_eq_true, decide_eq_true_eq] at h1
  exact List.mem_filter.mpr h1
theorem in_Plan : ∀ w ∈ u_ws R_Plan T_Plan 8, w ∈ lgG := by
  have h : (u_ws R_Plan T_Plan 8).all (fun w => decide (w ∈ lw_tbl) && goodWord w) = true := by decide +kernel
  intro w hw
  have h1 := List.all_eq_true.mp h w hw
  simp only [Bool.and_eq_true, decide_eq_true_eq] at h1
  exact List.mem_filter.mpr h1
theorem in_Seam : ∀ w ∈ u_ws R_Seam T_Seam 7, w ∈ lgG := by
  have h : (u_ws R_Seam T_Seam 7).all (fun w => decide (w ∈ lw_tbl) && goodWord w) = true := by decide +kernel
  intro w hw
  have h1 := List.all_eq_true.mp h w hw
  simp only [Bool.and_eq_true, decide_eq_true_eq] at h1
  exact List.mem_filter.mpr h1
theorem in_Search : ∀ w ∈ u_ws R_Search T_Search 14, w ∈ lgG := by
  have h : (u_ws R_Search T_Search 14).all (fun w => decide (w ∈ lw_tbl) && goodWord w) = true := by decide +kernel
  intro w hw
  have h1 := List.all_eq_true.mp h w hw
  simp only [Bool.and_eq_true, decide_eq_true_eq] at h1
  exact List.mem_filter.mpr h1
theorem in_Touches : ∀ w ∈ u_ws R_Touches T_Touches 3, w ∈ lgG := by
  have h : (u_ws R_Touches T_Touches 3).all (fun w => decide (w ∈ lw_tbl) && goodWord w) = true := by decide +kernel
  intro w hw
  have h1 := List.all_eq_true.mp h w hw
  simp only [Bool.and_eq_true, decide_eq_true_eq] at h1
  exact List.mem_filter.mpr h1
theorem in_SeamCell : ∀ w ∈ u_ws R_SeamCell T_SeamCell 7, w ∈ lgG := by
  have h : (u_ws R_SeamCell T_SeamCell 7).all (fun w => decide (w ∈ lw_tbl) && goodWord w) = true := by decide +kernel
  intro w hw
  have h1 := List.all_eq_true.mp h w hw
  simp only [Bool.and_eq_true, decide_eq_true_eq] at h1
  exact List.mem_filter.mpr h1
theorem in_Model : ∀ w ∈ u_ws R_Model T_Model 41, w ∈ lgG := by
  have h : (u_ws R_Model T_Model 41).all (fun w => decide (w ∈ lw_tbl) && goodWord w) = true := by decide +kernel
  intro w hw
  have h1 := List.all_eq_true.mp h w hw
  simp only [Bool.and_eq_true, decide_eq_true_eq] at h1
  exact List.mem_filter.mpr h1
abbrev b_Acts_init : ByteArray := prog_2_method_1_code
def y_Acts_init : MethodName := ⟨R_Acts, "<init>", "()V"⟩
abbrev b_Acts_endsIn : ByteArray := prog_2_method_2_code
def y_Acts_endsIn : MethodName := ⟨R_Acts, "endsIn", "(I)Z"⟩
abbrev b_Acts_append : ByteArray := prog_2_method_3_code
def y_Acts_append : MethodName := ⟨R_Acts, "append", "(II)V"⟩
abbrev b_Acts_goes : ByteArray := prog_2_method_4_code
def y_Acts_goes : MethodName := ⟨R_Acts, "goes", "(II)Z"⟩
abbrev b_Acts_begin : ByteArray := prog_2_method_5_code
def y_Acts_begin : MethodName := ⟨R_Acts, "begin", "()V"⟩
abbrev b_Acts_isThrough : ByteArray := prog_2_method_6_code
def y_Acts_isThrough : MethodName := ⟨R_Acts, "isThrough", "()Z"⟩
abbrev b_Acts_zonesNow : ByteArray := prog_2_method_7_code
def y_Acts_zonesNow : MethodName := ⟨R_Acts, "zonesNow", "()I"⟩
abbrev b_Acts_tick : ByteArray := prog_2_method_8_code
def y_Acts_tick : MethodName := ⟨R_Acts, "tick", "(I)Z"⟩
abbrev b_Cell_init : ByteArray := prog_3_method_1_code
def y_Cell_init : MethodName := ⟨R_Cell, "<init>", "()V"⟩
abbrev b_Cell_putBar : ByteArray := prog_3_method_2_code
def y_Cell_putBar : MethodName := ⟨R_Cell, "putBar", "(IIII)V"⟩
abbrev b_Cell_xOf : ByteArray := prog_3_method_3_code
def y_Cell_xOf : MethodName := ⟨R_Cell, "xOf", "(III)I"⟩
abbrev b_Cell_yOf : ByteArray := prog_3_method_4_code
def y_Cell_yOf : MethodName := ⟨R_Cell, "yOf", "(III)I"⟩
abbrev b_Cell_isFlat : ByteArray := prog_3_method_5_code
def y_Cell_isFlat : MethodName := ⟨R_Cell, "isFlat", "(IIII)Z"⟩
abbrev b_Cell_isWithin : ByteArray := prog_3_method_6_code
def y_Cell_isWithin : MethodName := ⟨R_Cell, "isWithin", "(IIII)Z"⟩
abbrev b_Cell_isFree : ByteArray := prog_3_method_7_code
def y_Cell_isFree : MethodName := ⟨R_Cell, "isFree", "(IIII)Z"⟩
abbrev b_Cell_entersBar : ByteArray := prog_3_method_8_code
def y_Cell_entersBar : MethodName := ⟨R_Cell, "entersBar", "(IIIII)Z"⟩
abbrev b_Crew_init : ByteArray := prog_4_method_1_code
def y_Crew_init : MethodName := ⟨R_Crew, "<init>", "()V"⟩
abbrev b_Crew_work : ByteArray := prog_4_method_2_code
def y_Crew_work : MethodName := ⟨R_Crew, "work", "()Z"⟩
abbrev b_Crew_note : ByteArray := prog_4_method_3_code
def y_Crew_note : MethodName := ⟨R_Crew, "note", "(I)V"⟩
abbrev b_Crew_countPairs : ByteArray := prog_4_method_4_code
def y_Crew_countPairs : MethodName := ⟨R_Crew, "countPairs", "()I"⟩
abbrev b_Crew_countLocks : ByteArray := prog_4_method_5_code
def y_Crew_countLocks : MethodName := ⟨R_Crew, "countLocks", "()I"⟩
abbrev b_Crew_findLock : ByteArray := prog_4_method_6_code
def y_Crew_findLock : MethodName := ⟨R_Crew, "findLock", "(I)I"⟩
abbrev b_Crew_weave : ByteArray := prog_4_method_7_code
def y_Crew_weave : MethodName := ⟨R_Crew, "weave", "()V"⟩
abbrev b_Crew_isLock : ByteArray := prog_4_method_8_code
def y_Crew_isLock : MethodName := ⟨R_Crew, "isLock", "(II)Z"⟩
abbrev b_Crew_firstGoes : ByteArray := prog_4_method_9_code
def y_Crew_firstGoes : MethodName := ⟨R_Crew, "firstGoes", "(II)Z"⟩
abbrev b_Crew_secondGoes : ByteArray := prog_4_method_10_code
def y_Crew_secondGoes : MethodName := ⟨R_Crew, "secondGoes", "(II)Z"⟩
abbrev b_Pace_init : ByteArray := prog_5_method_1_code
def y_Pace_init : MethodName := ⟨R_Pace, "<init>", "(LSeamCell$Cell;)V"⟩
abbrev b_Pace_turnTicks : ByteArray := prog_5_method_2_code
def y_Pace_turnTicks : MethodName := ⟨R_Pace, "turnTicks", "(II)I"⟩
abbrev b_Pace_goTicks : ByteArray := prog_5_method_3_code
def y_Pace_goTicks : MethodName := ⟨R_Pace, "goTicks", "(IIII)I"⟩
abbrev b_Pace_restTicks : ByteArray := prog_5_method_4_code
def y_Pace_restTicks : MethodName := ⟨R_Pace, "restTicks", "(I)I"⟩
abbrev b_Part_init : ByteArray := prog_6_method_1_code
def y_Part_init : MethodName := ⟨R_Part, "<init>", "(LSeamCell$Cell;)V"⟩
abbrev b_Part_has : ByteArray := prog_6_method_2_code
def y_Part_has : MethodName := ⟨R_Part, "has", "(I)Z"⟩
abbrev b_Part_endX : ByteArray := prog_6_method_3_code
def y_Part_endX : MethodName := ⟨R_Part, "endX", "(III)I"⟩
abbrev b_Part_endY : ByteArray := prog_6_method_4_code
def y_Part_endY : MethodName := ⟨R_Part, "endY", "(III)I"⟩
abbrev b_Part_lacksAt : ByteArray := prog_6_method_5_code
def y_Part_lacksAt : MethodName := ⟨R_Part, "lacksAt", "(II)I"⟩
abbrev b_Part_quarterOf : ByteArray := prog_6_method_6_code
def y_Part_quarterOf : MethodName := ⟨R_Part, "quarterOf", "(I)I"⟩
abbrev b_Part_allHaveQuarters : ByteArray := prog_6_method_7_code
def y_Part_allHaveQuarters : MethodName := ⟨R_Part, "allHaveQuarters", "()Z"⟩
abbrev b_Part_areNear : ByteArray := prog_6_method_8_code
def y_Part_areNear : MethodName := ⟨R_Part, "areNear", "(II)Z"⟩
abbrev b_Part_areClose : ByteArray := prog_6_method_9_code
def y_Part_areClose : MethodName := ⟨R_Part, "areClose", "(IIII)Z"⟩
abbrev b_Plan_init : ByteArray := prog_7_method_1_code
def y_Plan_init : MethodName := ⟨R_Plan, "<init>", "(LSeamCell$Part;LSeamCell$Pace;)V"⟩
abbrev b_Plan_holds : ByteArray := prog_7_method_2_code
def y_Plan_holds : MethodName := ⟨R_Plan, "holds", "(I)Z"⟩
abbrev b_Plan_append : ByteArray := prog_7_method_3_code
def y_Plan_append : MethodName := ⟨R_Plan, "append", "(II)V"⟩
abbrev b_Plan_reckon : ByteArray := prog_7_method_4_code
def y_Plan_reckon : MethodName := ⟨R_Plan, "reckon", "()Z"⟩
abbrev b_Plan_cooledFor : ByteArray := prog_7_method_5_code
def y_Plan_cooledFor : MethodName := ⟨R_Plan, "cooledFor", "(I)I"⟩
abbrev b_Plan_lastEnd : ByteArray := prog_7_method_6_code
def y_Plan_lastEnd : MethodName := ⟨R_Plan, "lastEnd", "()I"⟩
abbrev b_Seam_init : ByteArray := prog_8_method_1_code
def y_Seam_init : MethodName := ⟨R_Seam, "<init>", "()V"⟩
abbrev b_Seam_draw : ByteArray := prog_8_method_2_code
def y_Seam_draw : MethodName := ⟨R_Seam, "draw", "(IIIIII)V"⟩
abbrev b_Search_init : ByteArray := prog_9_method_1_code
def y_Search_init : MethodName := ⟨R_Search, "<init>", "(LSeamCell$Part;LSeamCell$Pace;)V"⟩
abbrev b_Search_go : ByteArray := prog_9_method_2_code
def y_Search_go : MethodName := ⟨R_Search, "go", "()V"⟩
abbrev b_Search_noteSeams : ByteArray := prog_9_method_3_code
def y_Search_noteSeams : MethodName := ⟨R_Search, "noteSeams", "()V"⟩
abbrev b_Search_noteMoves : ByteArray := prog_9_method_4_code
def y_Search_noteMoves : MethodName := ⟨R_Search, "noteMoves", "()V"⟩
abbrev b_Search_noteMovesFrom : ByteArray := prog_9_method_5_code
def y_Search_noteMovesFrom : MethodName := ⟨R_Search, "noteMovesFrom", "(IIII)V"⟩
abbrev b_Search_noteLeasts : ByteArray := prog_9_method_6_code
def y_Search_noteLeasts : MethodName := ⟨R_Search, "noteLeasts", "()V"⟩
abbrev b_Search_leastLeft : ByteArray := prog_9_method_7_code
def y_Search_leastLeft : MethodName := ⟨R_Search, "leastLeft", "(II)I"⟩
abbrev b_Search_areNear : ByteArray := prog_9_method_8_code
def y_Search_areNear : MethodName := ⟨R_Search, "areNear", "(II)Z"⟩
abbrev b_Search_extend : ByteArray := prog_9_method_9_code
def y_Search_extend : MethodName := ⟨R_Search, "extend", "(LSeamCell$Search;III)V"⟩
abbrev b_Search_cooledFor : ByteArray := prog_9_method_10_code
def y_Search_cooledFor : MethodName := ⟨R_Search, "cooledFor", "(II)I"⟩
abbrev b_Search_keep : ByteArray := prog_9_method_11_code
def y_Search_keep : MethodName := ⟨R_Search, "keep", "(I)V"⟩
abbrev b_Touches_init : ByteArray := prog_10_method_1_code
def y_Touches_init : MethodName := ⟨R_Touches, "<init>", "()V"⟩
abbrev b_Touches_forget : ByteArray := prog_10_method_2_code
def y_Touches_forget : MethodName := ⟨R_Touches, "forget", "()V"⟩
abbrev b_Touches_narrow : ByteArray := prog_10_method_3_code
def y_Touches_narrow : MethodName := ⟨R_Touches, "narrow", "(III)Z"⟩
abbrev b_Touches_middle : ByteArray := prog_10_method_4_code
def y_Touches_middle : MethodName := ⟨R_Touches, "middle", "(I)I"⟩
abbrev b_SeamCell_init : ByteArray := prog_1_method_1_code
def y_SeamCell_init : MethodName := ⟨R_SeamCell, "<init>", "()V"⟩
abbrev b_SeamCell_table : ByteArray := prog_1_method_2_code
def y_SeamCell_table : MethodName := ⟨R_SeamCell, "table", "(II)I"⟩
abbrev b_SeamCell_arm : ByteArray := prog_1_method_3_code
def y_SeamCell_arm : MethodName := ⟨R_SeamCell, "arm", "(II)I"⟩
abbrev b_SeamCell_rules : ByteArray := prog_1_method_4_code
def y_SeamCell_rules : MethodName := ⟨R_SeamCell, "rules", "(II)I"⟩
abbrev b_SeamCell_times : ByteArray := prog_1_method_5_code
def y_SeamCell_times : MethodName := ⟨R_SeamCell, "times", "(IIII)I"⟩
abbrev b_SeamCell_home : ByteArray := prog_1_method_6_code
def y_SeamCell_home : MethodName := ⟨R_SeamCell, "home", "(II)I"⟩
abbrev b_SeamCell_bar : ByteArray := prog_1_method_7_code
def y_SeamCell_bar : MethodName := ⟨R_SeamCell, "bar", "(IIII)I"⟩
abbrev b_SeamCell_seam : ByteArray := prog_1_method_8_code
def y_SeamCell_seam : MethodName := ⟨R_SeamCell, "seam", "(IIIIII)I"⟩
abbrev b_SeamCell_clear : ByteArray := prog_1_method_9_code
def y_SeamCell_clear : MethodName := ⟨R_SeamCell, "clear", "(I)I"⟩
abbrev b_SeamCell_about : ByteArray := prog_1_method_10_code
def y_SeamCell_about : MethodName := ⟨R_SeamCell, "about", "(II)I"⟩
abbrev b_SeamCell_lacks : ByteArray := prog_1_method_11_code
def y_SeamCell_lacks : MethodName := ⟨R_SeamCell, "lacks", "(II)I"⟩
abbrev b_SeamCell_near : ByteArray := prog_1_method_12_code
def y_SeamCell_near : MethodName := ⟨R_SeamCell, "near", "(II)I"⟩
abbrev b_SeamCell_free : ByteArray := prog_1_method_13_code
def y_SeamCell_free : MethodName := ⟨R_SeamCell, "free", "(IIII)I"⟩
abbrev b_SeamCell_add : ByteArray := prog_1_method_14_code
def y_SeamCell_add : MethodName := ⟨R_SeamCell, "add", "(II)I"⟩
abbrev b_SeamCell_row : ByteArray := prog_1_method_15_code
def y_SeamCell_row : MethodName := ⟨R_SeamCell, "row", "(II)I"⟩
abbrev b_SeamCell_total : ByteArray := prog_1_method_16_code
def y_SeamCell_total : MethodName := ⟨R_SeamCell, "total", "()I"⟩
abbrev b_SeamCell_best : ByteArray := prog_1_method_17_code
def y_SeamCell_best : MethodName := ⟨R_SeamCell, "best", "()I"⟩
abbrev b_SeamCell_touch : ByteArray := prog_1_method_18_code
def y_SeamCell_touch : MethodName := ⟨R_SeamCell, "touch", "(IIII)I"⟩
abbrev b_SeamCell_shut : ByteArray := prog_1_method_19_code
def y_SeamCell_shut : MethodName := ⟨R_SeamCell, "shut", "(II)I"⟩
abbrev b_SeamCell_shift : ByteArray := prog_1_method_20_code
def y_SeamCell_shift : MethodName := ⟨R_SeamCell, "shift", "()I"⟩
abbrev b_SeamCell_shifted : ByteArray := prog_1_method_21_code
def y_SeamCell_shifted : MethodName := ⟨R_SeamCell, "shifted", "(I)I"⟩
abbrev b_SeamCell_act : ByteArray := prog_1_method_22_code
def y_SeamCell_act : MethodName := ⟨R_SeamCell, "act", "(III)I"⟩
abbrev b_SeamCell_run : ByteArray := prog_1_method_23_code
def y_SeamCell_run : MethodName := ⟨R_SeamCell, "run", "()I"⟩
abbrev b_SeamCell_ran : ByteArray := prog_1_method_24_code
def y_SeamCell_ran : MethodName := ⟨R_SeamCell, "ran", "(I)I"⟩
abbrev b_SeamCell_web : ByteArray := prog_1_method_25_code
def y_SeamCell_web : MethodName := ⟨R_SeamCell, "web", "()I"⟩
abbrev b_SeamCell_lock : ByteArray := prog_1_method_26_code
def y_SeamCell_lock : MethodName := ⟨R_SeamCell, "lock", "(I)I"⟩
abbrev b_SeamCell_told : ByteArray := prog_1_method_27_code
def y_SeamCell_told : MethodName := ⟨R_SeamCell, "told", "(I)I"⟩
abbrev b_SeamCell_isFromTo : ByteArray := prog_1_method_28_code
def y_SeamCell_isFromTo : MethodName := ⟨R_SeamCell, "isFromTo", "(III)Z"⟩
abbrev b_SeamCell_areFromTo : ByteArray := prog_1_method_29_code
def y_SeamCell_areFromTo : MethodName := ⟨R_SeamCell, "areFromTo", "(IIIIII)Z"⟩
abbrev b_SeamCell_cutDown : ByteArray := prog_1_method_30_code
def y_SeamCell_cutDown : MethodName := ⟨R_SeamCell, "cutDown", "(II)I"⟩
abbrev b_SeamCell_cutUp : ByteArray := prog_1_method_31_code
def y_SeamCell_cutUp : MethodName := ⟨R_SeamCell, "cutUp", "(II)I"⟩
abbrev b_SeamCell_square : ByteArray := prog_1_method_32_code
def y_SeamCell_square : MethodName := ⟨R_SeamCell, "square", "(I)I"⟩
abbrev b_SeamCell_rootUp : ByteArray := prog_1_method_33_code
def y_SeamCell_rootUp : MethodName := ⟨R_SeamCell, "rootUp", "(I)I"⟩
abbrev b_Model_init : ByteArray := prog_12_method_1_code
def y_Model_init : MethodName := ⟨R_Model, "<init>", "()V"⟩
abbrev b_Model_in : ByteArray := prog_12_method_3_code
def y_Model_in : MethodName := ⟨R_Model, "in", "(JJJ)Z"⟩
abbrev b_Model_size : ByteArray := prog_12_method_4_code
def y_Model_size : MethodName := ⟨R_Model, "size", "(I)I"⟩
abbrev b_Model_table : ByteArray := prog_12_method_5_code
def y_Model_table : MethodName := ⟨R_Model, "table", "(II)I"⟩
abbrev b_Model_arm : ByteArray := prog_12_method_6_code
def y_Model_arm : MethodName := ⟨R_Model, "arm", "(II)I"⟩
abbrev b_Model_rules : ByteArray := prog_12_method_7_code
def y_Model_rules : MethodName := ⟨R_Model, "rules", "(II)I"⟩
abbrev b_Model_times : ByteArray := prog_12_method_8_code
def y_Model_times : MethodName := ⟨R_Model, "times", "(IIII)I"⟩
abbrev b_Model_home : ByteArray := prog_12_method_9_code
def y_Model_home : MethodName := ⟨R_Model, "home", "(II)I"⟩
abbrev b_Model_bar : ByteArray := prog_12_method_10_code
def y_Model_bar : MethodName := ⟨R_Model, "bar", "(IIII)I"⟩
abbrev b_Model_isPlace : ByteArray := prog_12_method_11_code
def y_Model_isPlace : MethodName := ⟨R_Model, "isPlace", "(II)Z"⟩
abbrev b_Model_seam : ByteArray := prog_12_method_12_code
def y_Model_seam : MethodName := ⟨R_Model, "seam", "(IIIIII)I"⟩
abbrev b_Model_clear : ByteArray := prog_12_method_13_code
def y_Model_clear : MethodName := ⟨R_Model, "clear", "(I)I"⟩
abbrev b_Model_isSeam : ByteArray := prog_12_method_14_code
def y_Model_isSeam : MethodName := ⟨R_Model, "isSeam", "(I)Z"⟩
abbrev b_Model_placeOf : ByteArray := prog_12_method_15_code
def y_Model_placeOf : MethodName := ⟨R_Model, "placeOf", "(IIII)I"⟩
abbrev b_Model_square : ByteArray := prog_12_method_16_code
def y_Model_square : MethodName := ⟨R_Model, "square", "(JJ)J"⟩
abbrev b_Model_isWithin : ByteArray := prog_12_method_17_code
def y_Model_isWithin : MethodName := ⟨R_Model, "isWithin", "(IIII)Z"⟩
abbrev b_Model_shutIn : ByteArray := prog_12_method_18_code
def y_Model_shutIn : MethodName := ⟨R_Model, "shutIn", "(IIII)Z"⟩
abbrev b_Model_goesThrough : ByteArray := prog_12_method_19_code
def y_Model_goesThrough : MethodName := ⟨R_Model, "goesThrough", "(IIIII)Z"⟩
abbrev b_Model_isFree : ByteArray := prog_12_method_20_code
def y_Model_isFree : MethodName := ⟨R_Model, "isFree", "(IIII)Z"⟩
abbrev b_Model_lacking : ByteArray := prog_12_method_21_code
def y_Model_lacking : MethodName := ⟨R_Model, "lacking", "(II)I"⟩
abbrev b_Model_quarterOf : ByteArray := prog_12_method_22_code
def y_Model_quarterOf : MethodName := ⟨R_Model, "quarterOf", "(I)I"⟩
abbrev b_Model_lengthOf : ByteArray := prog_12_method_23_code
def y_Model_lengthOf : MethodName := ⟨R_Model, "lengthOf", "(I)I"⟩
abbrev b_Model_up : ByteArray := prog_12_method_24_code
def y_Model_up : MethodName := ⟨R_Model, "up", "(II)I"⟩
abbrev b_Model_timeOf : ByteArray := prog_12_method_25_code
def y_Model_timeOf : MethodName := ⟨R_Model, "timeOf", "(I)I"⟩
abbrev b_Model_about : ByteArray := prog_12_method_26_code
def y_Model_about : MethodName := ⟨R_Model, "about", "(II)I"⟩
abbrev b_Model_lacks : ByteArray := prog_12_method_27_code
def y_Model_lacks : MethodName := ⟨R_Model, "lacks", "(II)I"⟩
abbrev b_Model_areNear : ByteArray := prog_12_method_28_code
def y_Model_areNear : MethodName := ⟨R_Model, "areNear", "(II)Z"⟩
abbrev b_Model_near : ByteArray := prog_12_method_29_code
def y_Model_near : MethodName := ⟨R_Model, "near", "(II)I"⟩
abbrev b_Model_isFar : ByteArray := prog_12_method_30_code
def y_Model_isFar : MethodName := ⟨R_Model, "isFar", "(II)Z"⟩
abbrev b_Model_free : ByteArray := prog_12_method_31_code
def y_Model_free : MethodName := ⟨R_Model, "free", "(IIII)I"⟩
abbrev b_Model_findQuarters : ByteArray := prog_12_method_32_code
def y_Model_findQuarters : MethodName := ⟨R_Model, "findQuarters", "()Z"⟩
abbrev b_Model_workAt : ByteArray := prog_12_method_33_code
def y_Model_workAt : MethodName := ⟨R_Model, "workAt", "(I)V"⟩
abbrev b_Model_workRow : ByteArray := prog_12_method_34_code
def y_Model_workRow : MethodName := ⟨R_Model, "workRow", "()V"⟩
abbrev b_Model_add : ByteArray := prog_12_method_35_code
def y_Model_add : MethodName := ⟨R_Model, "add", "(II)I"⟩
abbrev b_Model_row : ByteArray := prog_12_method_36_code
def y_Model_row : MethodName := ⟨R_Model, "row", "(II)I"⟩
abbrev b_Model_total : ByteArray := prog_12_method_37_code
def y_Model_total : MethodName := ⟨R_Model, "total", "()I"⟩
abbrev b_Model_best : ByteArray := prog_12_method_38_code
def y_Model_best : MethodName := ⟨R_Model, "best", "()I"⟩
abbrev b_Model_keepRow : ByteArray := prog_12_method_39_code
def y_Model_keepRow : MethodName := ⟨R_Model, "keepRow", "()V"⟩
abbrev b_Model_shutAnew : ByteArray := prog_12_method_40_code
def y_Model_shutAnew : MethodName := ⟨R_Model, "shutAnew", "()V"⟩
abbrev b_Model_touch : ByteArray := prog_12_method_41_code
def y_Model_touch : MethodName := ⟨R_Model, "touch", "(IIII)I"⟩
abbrev b_Model_shut : ByteArray := prog_12_method_42_code
def y_Model_shut : MethodName := ⟨R_Model, "shut", "(II)I"⟩
abbrev b_Model_shift : ByteArray := prog_12_method_43_code
def y_Model_shift : MethodName := ⟨R_Model, "shift", "()I"⟩
abbrev b_Model_shifted : ByteArray := prog_12_method_44_code
def y_Model_shifted : MethodName := ⟨R_Model, "shifted", "(I)I"⟩
abbrev b_Model_kindOf : ByteArray := prog_12_method_45_code
def y_Model_kindOf : MethodName := ⟨R_Model, "kindOf", "(II)I"⟩
abbrev b_Model_numberOf : ByteArray := prog_12_method_46_code
def y_Model_numberOf : MethodName := ⟨R_Model, "numberOf", "(II)I"⟩
abbrev b_Model_zonesOf : ByteArray := prog_12_method_47_code
def y_Model_zonesOf : MethodName := ⟨R_Model, "zonesOf", "(II)I"⟩
abbrev b_Model_act : ByteArray := prog_12_method_48_code
def y_Model_act : MethodName := ⟨R_Model, "act", "(III)I"⟩
abbrev b_Model_waits : ByteArray := prog_12_method_49_code
def y_Model_waits : MethodName := ⟨R_Model, "waits", "(III)Z"⟩
abbrev b_Model_isOver : ByteArray := prog_12_method_50_code
def y_Model_isOver : MethodName := ⟨R_Model, "isOver", "(I)Z"⟩
abbrev b_Model_goes : ByteArray := prog_12_method_51_code
def y_Model_goes : MethodName := ⟨R_Model, "goes", "(I)Z"⟩
abbrev b_Model_run : ByteArray := prog_12_method_52_code
def y_Model_run : MethodName := ⟨R_Model, "run", "()I"⟩
abbrev b_Model_ran : ByteArray := prog_12_method_53_code
def y_Model_ran : MethodName := ⟨R_Model, "ran", "(I)I"⟩
abbrev b_Model_canDo : ByteArray := prog_12_method_54_code
def y_Model_canDo : MethodName := ⟨R_Model, "canDo", "(III)Z"⟩
abbrev b_Model_findWeb : ByteArray := prog_12_method_55_code
def y_Model_findWeb : MethodName := ⟨R_Model, "findWeb", "()I"⟩
abbrev b_Model_web : ByteArray := prog_12_method_56_code
def y_Model_web : MethodName := ⟨R_Model, "web", "()I"⟩
abbrev b_Model_lock : ByteArray := prog_12_method_57_code
def y_Model_lock : MethodName := ⟨R_Model, "lock", "(I)I"⟩
abbrev b_Model_told : ByteArray := prog_12_method_58_code
def y_Model_told : MethodName := ⟨R_Model, "told", "(I)I"⟩
abbrev b_fill : ByteArray := prog_14_method_103_code
def y_fill : MethodName := ⟨"java/util/Arrays", "fill", "([II)V"⟩
def nestW : List (String × Nat × MethodName × String) := [("SeamCell", 9, ⟨"SeamCell$Cell", "<init>", "()V"⟩, "SeamCell"), ("SeamCell$Part", 25, ⟨"SeamCell$Seam", "<init>", "()V"⟩, "SeamCell"), ("SeamCell", 50, ⟨"SeamCell$Touches", "<init>", "()V"⟩, "SeamCell"), ("SeamCell", 57, ⟨"SeamCell$Crew", "<init>", "()V"⟩, "SeamCell"), ("SeamCell$Crew", 11, ⟨"SeamCell$Acts", "<init>", "()V"⟩, "SeamCell"), ("SeamCell$Seam", 22, ⟨"SeamCell", "square", "(I)I"⟩, "SeamCell"), ("SeamCell$Seam", 28, ⟨"SeamCell", "rootUp", "(I)I"⟩, "SeamCell"), ("SeamCell$Seam", 34, ⟨"SeamCell", "cutUp", "(II)I"⟩, "SeamCell"), ("SeamCell$Cell", 55, ⟨"SeamCell", "square", "(I)I"⟩, "SeamCell"), ("SeamCell$Part", 77, ⟨"SeamCell", "square", "(I)I"⟩, "SeamCell"), ("SeamCell$Pace", 47, ⟨"SeamCell", "cutUp", "(II)I"⟩, "SeamCell"), ("SeamCell$Pace", 56, ⟨"SeamCell", "cutDown", "(II)I"⟩, "SeamCell")]
def NW (U : State) : Prop := ∀ q ∈ nestW, va_Nw (.methodLinkNest q.1 q.2.1 q.2.2.1 q.2.2.2) U
theorem NW_of {args : Array Value} {s : State} (h : ∀ w ∈ lw_tbl, w.before args s = true) : NW s := by
  have hh : nestW.all (fun q => decide (Cond.methodLinkNest q.1 q.2.1 q.2.2.1 q.2.2.2 ∈ lw_tbl)) = true := by decide +kernel
  intro q hq
  exact va_Nw.of rfl (h _ (of_decide_eq_true (List.all_eq_true.mp hh q hq)))
