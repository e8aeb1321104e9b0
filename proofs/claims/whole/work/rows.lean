section
-- ===== PART A: goes FIRST, ahead of the names: the tables' words, and 'selects' of the private methods out of them =====
/-- a private method of a class that the tables say can be made, by its rows of tables_1 -/
def lw_okq (q : MethodName × Nat) : Prop := (q.1.cls ≠ "java/lang/invoke/MethodHandle" ∧ q.1.cls ≠ "java/lang/invoke/VarHandle") ∧ Cond.instantiable q.1.cls q.2 ∈ tables_1 ∧ Cond.privateMethod q.1 ∈ tables_1 ∧ Cond.instanceMethod q.1 ∈ tables_1
theorem lw_p0 : lw_okq (⟨"FlowFold", "lookAnew", "()V"⟩, 13) := ⟨⟨by decide +kernel, by decide +kernel⟩, List.mem_of_getElem? (i := 19) (by decide +kernel), List.mem_of_getElem? (i := 387) (by decide +kernel), List.mem_of_getElem? (i := 388) (by decide +kernel)⟩
theorem lw_p1 : lw_okq (⟨"FlowFold$Flow", "findTargets", "(I)V"⟩, 13) := ⟨⟨by decide +kernel, by decide +kernel⟩, List.mem_of_getElem? (i := 79) (by decide +kernel), List.mem_of_getElem? (i := 395) (by decide +kernel), List.mem_of_getElem? (i := 396) (by decide +kernel)⟩
theorem lw_p2 : lw_okq (⟨"FlowFold$Flow", "doNode", "(II)V"⟩, 13) := ⟨⟨by decide +kernel, by decide +kernel⟩, List.mem_of_getElem? (i := 79) (by decide +kernel), List.mem_of_getElem? (i := 405) (by decide +kernel), List.mem_of_getElem? (i := 406) (by decide +kernel)⟩
theorem lw_p3 : lw_okq (⟨"FlowFold$Flow", "findRulers", "()V"⟩, 13) := ⟨⟨by decide +kernel, by decide +kernel⟩, List.mem_of_getElem? (i := 79) (by decide +kernel), List.mem_of_getElem? (i := 412) (by decide +kernel), List.mem_of_getElem? (i := 413) (by decide +kernel)⟩
theorem lw_p4 : lw_okq (⟨"FlowFold$Flow", "strikeBehind", "(II)Z"⟩, 13) := ⟨⟨by decide +kernel, by decide +kernel⟩, List.mem_of_getElem? (i := 79) (by decide +kernel), List.mem_of_getElem? (i := 416) (by decide +kernel), List.mem_of_getElem? (i := 417) (by decide +kernel)⟩
theorem lw_p5 : lw_okq (⟨"FlowFold$Flow", "weighEdges", "()V"⟩, 13) := ⟨⟨by decide +kernel, by decide +kernel⟩, List.mem_of_getElem? (i := 79) (by decide +kernel), List.mem_of_getElem? (i := 420) (by decide +kernel), List.mem_of_getElem? (i := 421) (by decide +kernel)⟩
theorem lw_p6 : lw_okq (⟨"FlowFold$Signs", "putTree", "(II)V"⟩, 9) := ⟨⟨by decide +kernel, by decide +kernel⟩, List.mem_of_getElem? (i := 132) (by decide +kernel), List.mem_of_getElem? (i := 432) (by decide +kernel), List.mem_of_getElem? (i := 433) (by decide +kernel)⟩
theorem lw_p7 : lw_okq (⟨"FlowFold$Signs", "putOpening", "(I)V"⟩, 9) := ⟨⟨by decide +kernel, by decide +kernel⟩, List.mem_of_getElem? (i := 132) (by decide +kernel), List.mem_of_getElem? (i := 441) (by decide +kernel), List.mem_of_getElem? (i := 442) (by decide +kernel)⟩
theorem lw_p8 : lw_okq (⟨"FlowFold$Signs", "put", "(I)V"⟩, 9) := ⟨⟨by decide +kernel, by decide +kernel⟩, List.mem_of_getElem? (i := 132) (by decide +kernel), List.mem_of_getElem? (i := 445) (by decide +kernel), List.mem_of_getElem? (i := 446) (by decide +kernel)⟩
theorem lw_p9 : lw_okq (⟨"FlowFold$Signs", "putWithin", "(II)V"⟩, 9) := ⟨⟨by decide +kernel, by decide +kernel⟩, List.mem_of_getElem? (i := 132) (by decide +kernel), List.mem_of_getElem? (i := 450) (by decide +kernel), List.mem_of_getElem? (i := 451) (by decide +kernel)⟩
theorem lw_p10 : lw_okq (⟨"FlowFold$Signs", "isBlockIn", "(II)Z"⟩, 9) := ⟨⟨by decide +kernel, by decide +kernel⟩, List.mem_of_getElem? (i := 132) (by decide +kernel), List.mem_of_getElem? (i := 458) (by decide +kernel), List.mem_of_getElem? (i := 459) (by decide +kernel)⟩
theorem lw_p11 : lw_okq (⟨"FlowFold$Signs", "putBranch", "(III)V"⟩, 9) := ⟨⟨by decide +kernel, by decide +kernel⟩, List.mem_of_getElem? (i := 132) (by decide +kernel), List.mem_of_getElem? (i := 471) (by decide +kernel), List.mem_of_getElem? (i := 472) (by decide +kernel)⟩
theorem lw_p12 : lw_okq (⟨"FlowFold$Signs", "depthOf", "(I)I"⟩, 9) := ⟨⟨by decide +kernel, by decide +kernel⟩, List.mem_of_getElem? (i := 132) (by decide +kernel), List.mem_of_getElem? (i := 483) (by decide +kernel), List.mem_of_getElem? (i := 484) (by decide +kernel)⟩
theorem lw_p13 : lw_okq (⟨"FlowFold$Signs", "putWayOut", "(II)V"⟩, 9) := ⟨⟨by decide +kernel, by decide +kernel⟩, List.mem_of_getElem? (i := 132) (by decide +kernel), List.mem_of_getElem? (i := 487) (by decide +kernel), List.mem_of_getElem? (i := 488) (by decide +kernel)⟩
theorem lw_p14 : lw_okq (⟨"FlowFold$Signs", "putClosing", "(I)V"⟩, 9) := ⟨⟨by decide +kernel, by decide +kernel⟩, List.mem_of_getElem? (i := 132) (by decide +kernel), List.mem_of_getElem? (i := 491) (by decide +kernel), List.mem_of_getElem? (i := 492) (by decide +kernel)⟩
theorem lw_p15 : lw_okq (⟨"FlowFold", "fewestLeftOut", "()I"⟩, 13) := ⟨⟨by decide +kernel, by decide +kernel⟩, List.mem_of_getElem? (i := 19) (by decide +kernel), List.mem_of_getElem? (i := 592) (by decide +kernel), List.mem_of_getElem? (i := 593) (by decide +kernel)⟩
def lw_privs_1 : List (MethodName × Nat) := [(⟨"FlowFold", "lookAnew", "()V"⟩, 13), (⟨"FlowFold$Flow", "findTargets", "(I)V"⟩, 13), (⟨"FlowFold$Flow", "doNode", "(II)V"⟩, 13), (⟨"FlowFold$Flow", "findRulers", "()V"⟩, 13), (⟨"FlowFold$Flow", "strikeBehind", "(II)Z"⟩, 13), (⟨"FlowFold$Flow", "weighEdges", "()V"⟩, 13), (⟨"FlowFold$Signs", "putTree", "(II)V"⟩, 9), (⟨"FlowFold$Signs", "putOpening", "(I)V"⟩, 9), (⟨"FlowFold$Signs", "put", "(I)V"⟩, 9), (⟨"FlowFold$Signs", "putWithin", "(II)V"⟩, 9), (⟨"FlowFold$Signs", "isBlockIn", "(II)Z"⟩, 9), (⟨"FlowFold$Signs", "putBranch", "(III)V"⟩, 9), (⟨"FlowFold$Signs", "depthOf", "(I)I"⟩, 9), (⟨"FlowFold$Signs", "putWayOut", "(II)V"⟩, 9), (⟨"FlowFold$Signs", "putClosing", "(I)V"⟩, 9), (⟨"FlowFold", "fewestLeftOut", "()I"⟩, 13)]
theorem lw_r1 : ∀ q ∈ lw_privs_1, lw_okq q := List.forall_mem_cons.mpr ⟨lw_p0, List.forall_mem_cons.mpr ⟨lw_p1, List.forall_mem_cons.mpr ⟨lw_p2, List.forall_mem_cons.mpr ⟨lw_p3, List.forall_mem_cons.mpr ⟨lw_p4, List.forall_mem_cons.mpr ⟨lw_p5, List.forall_mem_cons.mpr ⟨lw_p6, List.forall_mem_cons.mpr ⟨lw_p7, List.forall_mem_cons.mpr ⟨lw_p8, List.forall_mem_cons.mpr ⟨lw_p9, List.forall_mem_cons.mpr ⟨lw_p10, List.forall_mem_cons.mpr ⟨lw_p11, List.forall_mem_cons.mpr ⟨lw_p12, List.forall_mem_cons.mpr ⟨lw_p13, List.forall_mem_cons.mpr ⟨lw_p14, List.forall_mem_cons.mpr ⟨lw_p15, fun _ h => absurd h List.not_mem_nil⟩⟩⟩⟩⟩⟩⟩⟩⟩⟩⟩⟩⟩⟩⟩⟩
theorem lw_p16 : lw_okq (⟨"FlowFold", "leastLeftOut", "(III)I"⟩, 13) := ⟨⟨by decide +kernel, by decide +kernel⟩, List.mem_of_getElem? (i := 19) (by decide +kernel), List.mem_of_getElem? (i := 596) (by decide +kernel), List.mem_of_getElem? (i := 597) (by decide +kernel)⟩
theorem lw_p17 : lw_okq (⟨"FlowFold", "drawDraft", "(I)I"⟩, 13) := ⟨⟨by decide +kernel, by decide +kernel⟩, List.mem_of_getElem? (i := 19) (by decide +kernel), List.mem_of_getElem? (i := 617) (by decide +kernel), List.mem_of_getElem? (i := 618) (by decide +kernel)⟩
theorem lw_p18 : lw_okq (⟨"FlowFoldModel", "read", "()I"⟩, 55) := ⟨⟨by decide +kernel, by decide +kernel⟩, List.mem_of_getElem? (i := 660) (by decide +kernel), List.mem_of_getElem? (i := 847) (by decide +kernel), List.mem_of_getElem? (i := 848) (by decide +kernel)⟩
theorem lw_p19 : lw_okq (⟨"FlowFoldModel", "at", "(I)I"⟩, 55) := ⟨⟨by decide +kernel, by decide +kernel⟩, List.mem_of_getElem? (i := 660) (by decide +kernel), List.mem_of_getElem? (i := 851) (by decide +kernel), List.mem_of_getElem? (i := 852) (by decide +kernel)⟩
theorem lw_p20 : lw_okq (⟨"FlowFoldModel", "isNode", "(I)Z"⟩, 55) := ⟨⟨by decide +kernel, by decide +kernel⟩, List.mem_of_getElem? (i := 660) (by decide +kernel), List.mem_of_getElem? (i := 869) (by decide +kernel), List.mem_of_getElem? (i := 870) (by decide +kernel)⟩
theorem lw_p21 : lw_okq (⟨"FlowFoldModel", "layNow", "()V"⟩, 55) := ⟨⟨by decide +kernel, by decide +kernel⟩, List.mem_of_getElem? (i := 660) (by decide +kernel), List.mem_of_getElem? (i := 873) (by decide +kernel), List.mem_of_getElem? (i := 874) (by decide +kernel)⟩
theorem lw_p22 : lw_okq (⟨"FlowFoldModel", "layGraph", "()V"⟩, 55) := ⟨⟨by decide +kernel, by decide +kernel⟩, List.mem_of_getElem? (i := 660) (by decide +kernel), List.mem_of_getElem? (i := 877) (by decide +kernel), List.mem_of_getElem? (i := 878) (by decide +kernel)⟩
theorem lw_p23 : lw_okq (⟨"FlowFoldModel", "lay", "()V"⟩, 55) := ⟨⟨by decide +kernel, by decide +kernel⟩, List.mem_of_getElem? (i := 660) (by decide +kernel), List.mem_of_getElem? (i := 881) (by decide +kernel), List.mem_of_getElem? (i := 882) (by decide +kernel)⟩
theorem lw_p24 : lw_okq (⟨"FlowFoldModel", "layOrder", "()V"⟩, 55) := ⟨⟨by decide +kernel, by decide +kernel⟩, List.mem_of_getElem? (i := 660) (by decide +kernel), List.mem_of_getElem? (i := 885) (by decide +kernel), List.mem_of_getElem? (i := 886) (by decide +kernel)⟩
theorem lw_p25 : lw_okq (⟨"FlowFoldModel", "isEdge", "(I)Z"⟩, 55) := ⟨⟨by decide +kernel, by decide +kernel⟩, List.mem_of_getElem? (i := 660) (by decide +kernel), List.mem_of_getElem? (i := 889) (by decide +kernel), List.mem_of_getElem? (i := 890) (by decide +kernel)⟩
theorem lw_p26 : lw_okq (⟨"FlowFoldModel", "layLords", "()V"⟩, 55) := ⟨⟨by decide +kernel, by decide +kernel⟩, List.mem_of_getElem? (i := 660) (by decide +kernel), List.mem_of_getElem? (i := 896) (by decide +kernel), List.mem_of_getElem? (i := 897) (by decide +kernel)⟩
theorem lw_p27 : lw_okq (⟨"FlowFoldModel", "without", "(I)I"⟩, 55) := ⟨⟨by decide +kernel, by decide +kernel⟩, List.mem_of_getElem? (i := 660) (by decide +kernel), List.mem_of_getElem? (i := 900) (by decide +kernel), List.mem_of_getElem? (i := 901) (by decide +kernel)⟩
theorem lw_p28 : lw_okq (⟨"FlowFoldModel", "layEdges", "()V"⟩, 55) := ⟨⟨by decide +kernel, by decide +kernel⟩, List.mem_of_getElem? (i := 660) (by decide +kernel), List.mem_of_getElem? (i := 907) (by decide +kernel), List.mem_of_getElem? (i := 908) (by decide +kernel)⟩
theorem lw_p29 : lw_okq (⟨"FlowFoldModel", "isLive", "(I)Z"⟩, 55) := ⟨⟨by decide +kernel, by decide +kernel⟩, List.mem_of_getElem? (i := 660) (by decide +kernel), List.mem_of_getElem? (i := 911) (by decide +kernel), List.mem_of_getElem? (i := 912) (by decide +kernel)⟩
theorem lw_p30 : lw_okq (⟨"FlowFoldModel", "isBack", "(I)Z"⟩, 55) := ⟨⟨by decide +kernel, by decide +kernel⟩, List.mem_of_getElem? (i := 660) (by decide +kernel), List.mem_of_getElem? (i := 915) (by decide +kernel), List.mem_of_getElem? (i := 916) (by decide +kernel)⟩
theorem lw_p31 : lw_okq (⟨"FlowFoldModel", "retreats", "(I)Z"⟩, 55) := ⟨⟨by decide +kernel, by decide +kernel⟩, List.mem_of_getElem? (i := 660) (by decide +kernel), List.mem_of_getElem? (i := 919) (by decide +kernel), List.mem_of_getElem? (i := 920) (by decide +kernel)⟩
def lw_privs_2 : List (MethodName × Nat) := [(⟨"FlowFold", "leastLeftOut", "(III)I"⟩, 13), (⟨"FlowFold", "drawDraft", "(I)I"⟩, 13), (⟨"FlowFoldModel", "read", "()I"⟩, 55), (⟨"FlowFoldModel", "at", "(I)I"⟩, 55), (⟨"FlowFoldModel", "isNode", "(I)Z"⟩, 55), (⟨"FlowFoldModel", "layNow", "()V"⟩, 55), (⟨"FlowFoldModel", "layGraph", "()V"⟩, 55), (⟨"FlowFoldModel", "lay", "()V"⟩, 55), (⟨"FlowFoldModel", "layOrder", "()V"⟩, 55), (⟨"FlowFoldModel", "isEdge", "(I)Z"⟩, 55), (⟨"FlowFoldModel", "layLords", "()V"⟩, 55), (⟨"FlowFoldModel", "without", "(I)I"⟩, 55), (⟨"FlowFoldModel", "layEdges", "()V"⟩, 55), (⟨"FlowFoldModel", "isLive", "(I)Z"⟩, 55), (⟨"FlowFoldModel", "isBack", "(I)Z"⟩, 55), (⟨"FlowFoldModel", "retreats", "(I)Z"⟩, 55)]
theorem lw_r2 : ∀ q ∈ lw_privs_2, lw_okq q := List.forall_mem_cons.mpr ⟨lw_p16, List.forall_mem_cons.mpr ⟨lw_p17, List.forall_mem_cons.mpr ⟨lw_p18, List.forall_mem_cons.mpr ⟨lw_p19, List.forall_mem_cons.mpr ⟨lw_p20, List.forall_mem_cons.mpr ⟨lw_p21, List.forall_mem_cons.mpr ⟨lw_p22, List.forall_mem_cons.mpr ⟨lw_p23, List.forall_mem_cons.mpr ⟨lw_p24, List.forall_mem_cons.mpr ⟨lw_p25, List.forall_mem_cons.mpr ⟨lw_p26, List.forall_mem_cons.mpr ⟨lw_p27, List.forall_mem_cons.mpr ⟨lw_p28, List.forall_mem_cons.mpr ⟨lw_p29, List.forall_mem_cons.mpr ⟨lw_p30, List.forall_mem_cons.mpr ⟨lw_p31, fun _ h => absurd h List.not_mem_nil⟩⟩⟩⟩⟩⟩⟩⟩⟩⟩⟩⟩⟩⟩⟩⟩
theorem lw_p32 : lw_okq (⟨"FlowFoldModel", "nodeNow", "(II)I"⟩, 55) := ⟨⟨by decide +kernel, by decide +kernel⟩, List.mem_of_getElem? (i := 660) (by decide +kernel), List.mem_of_getElem? (i := 923) (by decide +kernel), List.mem_of_getElem? (i := 924) (by decide +kernel)⟩
theorem lw_p33 : lw_okq (⟨"FlowFoldModel", "dominated", "(I)I"⟩, 55) := ⟨⟨by decide +kernel, by decide +kernel⟩, List.mem_of_getElem? (i := 660) (by decide +kernel), List.mem_of_getElem? (i := 927) (by decide +kernel), List.mem_of_getElem? (i := 928) (by decide +kernel)⟩
theorem lw_p34 : lw_okq (⟨"FlowFoldModel", "sortsOf", "(I)I"⟩, 55) := ⟨⟨by decide +kernel, by decide +kernel⟩, List.mem_of_getElem? (i := 660) (by decide +kernel), List.mem_of_getElem? (i := 931) (by decide +kernel), List.mem_of_getElem? (i := 932) (by decide +kernel)⟩
theorem lw_p35 : lw_okq (⟨"FlowFoldModel", "askOf", "(I)I"⟩, 55) := ⟨⟨by decide +kernel, by decide +kernel⟩, List.mem_of_getElem? (i := 660) (by decide +kernel), List.mem_of_getElem? (i := 941) (by decide +kernel), List.mem_of_getElem? (i := 942) (by decide +kernel)⟩
theorem lw_p36 : lw_okq (⟨"FlowFoldModel", "edgeNow", "(I)I"⟩, 55) := ⟨⟨by decide +kernel, by decide +kernel⟩, List.mem_of_getElem? (i := 660) (by decide +kernel), List.mem_of_getElem? (i := 958) (by decide +kernel), List.mem_of_getElem? (i := 959) (by decide +kernel)⟩
theorem lw_p37 : lw_okq (⟨"FlowFoldModel", "walkNow", "(I)I"⟩, 55) := ⟨⟨by decide +kernel, by decide +kernel⟩, List.mem_of_getElem? (i := 660) (by decide +kernel), List.mem_of_getElem? (i := 974) (by decide +kernel), List.mem_of_getElem? (i := 975) (by decide +kernel)⟩
theorem lw_p38 : lw_okq (⟨"FlowFoldModel", "layFold", "()V"⟩, 55) := ⟨⟨by decide +kernel, by decide +kernel⟩, List.mem_of_getElem? (i := 660) (by decide +kernel), List.mem_of_getElem? (i := 986) (by decide +kernel), List.mem_of_getElem? (i := 987) (by decide +kernel)⟩
theorem lw_p39 : lw_okq (⟨"FlowFoldModel", "later", "(I)V"⟩, 55) := ⟨⟨by decide +kernel, by decide +kernel⟩, List.mem_of_getElem? (i := 660) (by decide +kernel), List.mem_of_getElem? (i := 990) (by decide +kernel), List.mem_of_getElem? (i := 991) (by decide +kernel)⟩
theorem lw_p40 : lw_okq (⟨"FlowFoldModel", "doNext", "(I)V"⟩, 55) := ⟨⟨by decide +kernel, by decide +kernel⟩, List.mem_of_getElem? (i := 660) (by decide +kernel), List.mem_of_getElem? (i := 994) (by decide +kernel), List.mem_of_getElem? (i := 995) (by decide +kernel)⟩
theorem lw_p41 : lw_okq (⟨"FlowFoldModel", "layTree", "(I)V"⟩, 55) := ⟨⟨by decide +kernel, by decide +kernel⟩, List.mem_of_getElem? (i := 660) (by decide +kernel), List.mem_of_getElem? (i := 998) (by decide +kernel), List.mem_of_getElem? (i := 999) (by decide +kernel)⟩
theorem lw_p42 : lw_okq (⟨"FlowFoldModel", "layWithin", "(I)V"⟩, 55) := ⟨⟨by decide +kernel, by decide +kernel⟩, List.mem_of_getElem? (i := 660) (by decide +kernel), List.mem_of_getElem? (i := 1002) (by decide +kernel), List.mem_of_getElem? (i := 1003) (by decide +kernel)⟩
theorem lw_p43 : lw_okq (⟨"FlowFoldModel", "isBlock", "(II)Z"⟩, 55) := ⟨⟨by decide +kernel, by decide +kernel⟩, List.mem_of_getElem? (i := 660) (by decide +kernel), List.mem_of_getElem? (i := 1006) (by decide +kernel), List.mem_of_getElem? (i := 1007) (by decide +kernel)⟩
theorem lw_p44 : lw_okq (⟨"FlowFoldModel", "branch", "(I)V"⟩, 55) := ⟨⟨by decide +kernel, by decide +kernel⟩, List.mem_of_getElem? (i := 660) (by decide +kernel), List.mem_of_getElem? (i := 1010) (by decide +kernel), List.mem_of_getElem? (i := 1011) (by decide +kernel)⟩
theorem lw_p45 : lw_okq (⟨"FlowFoldModel", "goOut", "(II)V"⟩, 55) := ⟨⟨by decide +kernel, by decide +kernel⟩, List.mem_of_getElem? (i := 660) (by decide +kernel), List.mem_of_getElem? (i := 1014) (by decide +kernel), List.mem_of_getElem? (i := 1015) (by decide +kernel)⟩
theorem lw_p46 : lw_okq (⟨"FlowFoldModel", "depthOf", "(I)I"⟩, 55) := ⟨⟨by decide +kernel, by decide +kernel⟩, List.mem_of_getElem? (i := 660) (by decide +kernel), List.mem_of_getElem? (i := 1018) (by decide +kernel), List.mem_of_getElem? (i := 1019) (by decide +kernel)⟩
theorem lw_p47 : lw_okq (⟨"FlowFoldModel", "tell", "(I)V"⟩, 55) := ⟨⟨by decide +kernel, by decide +kernel⟩, List.mem_of_getElem? (i := 660) (by decide +kernel), List.mem_of_getElem? (i := 1022) (by decide +kernel), List.mem_of_getElem? (i := 1023) (by decide +kernel)⟩
def lw_privs_3 : List (MethodName × Nat) := [(⟨"FlowFoldModel", "nodeNow", "(II)I"⟩, 55), (⟨"FlowFoldModel", "dominated", "(I)I"⟩, 55), (⟨"FlowFoldModel", "sortsOf", "(I)I"⟩, 55), (⟨"FlowFoldModel", "askOf", "(I)I"⟩, 55), (⟨"FlowFoldModel", "edgeNow", "(I)I"⟩, 55), (⟨"FlowFoldModel", "walkNow", "(I)I"⟩, 55), (⟨"FlowFoldModel", "layFold", "()V"⟩, 55), (⟨"FlowFoldModel", "later", "(I)V"⟩, 55), (⟨"FlowFoldModel", "doNext", "(I)V"⟩, 55), (⟨"FlowFoldModel", "layTree", "(I)V"⟩, 55), (⟨"FlowFoldModel", "layWithin", "(I)V"⟩, 55), (⟨"FlowFoldModel", "isBlock", "(II)Z"⟩, 55), (⟨"FlowFoldModel", "branch", "(I)V"⟩, 55), (⟨"FlowFoldModel", "goOut", "(II)V"⟩, 55), (⟨"FlowFoldModel", "depthOf", "(I)I"⟩, 55), (⟨"FlowFoldModel", "tell", "(I)V"⟩, 55)]
theorem lw_r3 : ∀ q ∈ lw_privs_3, lw_okq q := List.forall_mem_cons.mpr ⟨lw_p32, List.forall_mem_cons.mpr ⟨lw_p33, List.forall_mem_cons.mpr ⟨lw_p34, List.forall_mem_cons.mpr ⟨lw_p35, List.forall_mem_cons.mpr ⟨lw_p36, List.forall_mem_cons.mpr ⟨lw_p37, List.forall_mem_cons.mpr ⟨lw_p38, List.forall_mem_cons.mpr ⟨lw_p39, List.forall_mem_cons.mpr ⟨lw_p40, List.forall_mem_cons.mpr ⟨lw_p41, List.forall_mem_cons.mpr ⟨lw_p42, List.forall_mem_cons.mpr ⟨lw_p43, List.forall_mem_cons.mpr ⟨lw_p44, List.forall_mem_cons.mpr ⟨lw_p45, List.forall_mem_cons.mpr ⟨lw_p46, List.forall_mem_cons.mpr ⟨lw_p47, fun _ h => absurd h List.not_mem_nil⟩⟩⟩⟩⟩⟩⟩⟩⟩⟩⟩⟩⟩⟩⟩⟩
theorem lw_p48 : lw_okq (⟨"FlowFoldModel", "opens", "(I)V"⟩, 55) := ⟨⟨by decide +kernel, by decide +kernel⟩, List.mem_of_getElem? (i := 660) (by decide +kernel), List.mem_of_getElem? (i := 1026) (by decide +kernel), List.mem_of_getElem? (i := 1027) (by decide +kernel)⟩
theorem lw_p49 : lw_okq (⟨"FlowFoldModel", "foldNow", "(I)I"⟩, 55) := ⟨⟨by decide +kernel, by decide +kernel⟩, List.mem_of_getElem? (i := 660) (by decide +kernel), List.mem_of_getElem? (i := 1034) (by decide +kernel), List.mem_of_getElem? (i := 1035) (by decide +kernel)⟩
theorem lw_p50 : lw_okq (⟨"FlowFoldModel", "mendNow", "(I)I"⟩, 55) := ⟨⟨by decide +kernel, by decide +kernel⟩, List.mem_of_getElem? (i := 660) (by decide +kernel), List.mem_of_getElem? (i := 1042) (by decide +kernel), List.mem_of_getElem? (i := 1043) (by decide +kernel)⟩
theorem lw_p51 : lw_okq (⟨"FlowFoldModel", "mendSet", "()I"⟩, 55) := ⟨⟨by decide +kernel, by decide +kernel⟩, List.mem_of_getElem? (i := 660) (by decide +kernel), List.mem_of_getElem? (i := 1046) (by decide +kernel), List.mem_of_getElem? (i := 1047) (by decide +kernel)⟩
theorem lw_p52 : lw_okq (⟨"FlowFoldModel", "drawnNow", "(III)I"⟩, 55) := ⟨⟨by decide +kernel, by decide +kernel⟩, List.mem_of_getElem? (i := 660) (by decide +kernel), List.mem_of_getElem? (i := 1062) (by decide +kernel), List.mem_of_getElem? (i := 1063) (by decide +kernel)⟩
theorem lw_p53 : lw_okq (⟨"FlowFoldModel", "draw", "(I)I"⟩, 55) := ⟨⟨by decide +kernel, by decide +kernel⟩, List.mem_of_getElem? (i := 660) (by decide +kernel), List.mem_of_getElem? (i := 1066) (by decide +kernel), List.mem_of_getElem? (i := 1067) (by decide +kernel)⟩
theorem lw_p54 : lw_okq (⟨"FlowFoldModel", "howMany", "(I)I"⟩, 55) := ⟨⟨by decide +kernel, by decide +kernel⟩, List.mem_of_getElem? (i := 660) (by decide +kernel), List.mem_of_getElem? (i := 1086) (by decide +kernel), List.mem_of_getElem? (i := 1087) (by decide +kernel)⟩
theorem lw_p55 : lw_okq (⟨"FlowFoldModel", "ofGraph", "(I)I"⟩, 55) := ⟨⟨by decide +kernel, by decide +kernel⟩, List.mem_of_getElem? (i := 660) (by decide +kernel), List.mem_of_getElem? (i := 1090) (by decide +kernel), List.mem_of_getElem? (i := 1091) (by decide +kernel)⟩
theorem lw_p56 : lw_okq (⟨"FlowFoldModel", "mixGraph", "()V"⟩, 55) := ⟨⟨by decide +kernel, by decide +kernel⟩, List.mem_of_getElem? (i := 660) (by decide +kernel), List.mem_of_getElem? (i := 1099) (by decide +kernel), List.mem_of_getElem? (i := 1100) (by decide +kernel)⟩
theorem lw_p57 : lw_okq (⟨"FlowFoldModel", "mix", "(J)V"⟩, 55) := ⟨⟨by decide +kernel, by decide +kernel⟩, List.mem_of_getElem? (i := 660) (by decide +kernel), List.mem_of_getElem? (i := 1103) (by decide +kernel), List.mem_of_getElem? (i := 1104) (by decide +kernel)⟩
def lw_privs_4 : List (MethodName × Nat) := [(⟨"FlowFoldModel", "opens", "(I)V"⟩, 55), (⟨"FlowFoldModel", "foldNow", "(I)I"⟩, 55), (⟨"FlowFoldModel", "mendNow", "(I)I"⟩, 55), (⟨"FlowFoldModel", "mendSet", "()I"⟩, 55), (⟨"FlowFoldModel", "drawnNow", "(III)I"⟩, 55), (⟨"FlowFoldModel", "draw", "(I)I"⟩, 55), (⟨"FlowFoldModel", "howMany", "(I)I"⟩, 55), (⟨"FlowFoldModel", "ofGraph", "(I)I"⟩, 55), (⟨"FlowFoldModel", "mixGraph", "()V"⟩, 55), (⟨"FlowFoldModel", "mix", "(J)V"⟩, 55)]
theorem lw_r4 : ∀ q ∈ lw_privs_4, lw_okq q := List.forall_mem_cons.mpr ⟨lw_p48, List.forall_mem_cons.mpr ⟨lw_p49, List.forall_mem_cons.mpr ⟨lw_p50, List.forall_mem_cons.mpr ⟨lw_p51, List.forall_mem_cons.mpr ⟨lw_p52, List.forall_mem_cons.mpr ⟨lw_p53, List.forall_mem_cons.mpr ⟨lw_p54, List.forall_mem_cons.mpr ⟨lw_p55, List.forall_mem_cons.mpr ⟨lw_p56, List.forall_mem_cons.mpr ⟨lw_p57, fun _ h => absurd h List.not_mem_nil⟩⟩⟩⟩⟩⟩⟩⟩⟩⟩
def lw_privs : List (MethodName × Nat) := lw_privs_1 ++ (lw_privs_2 ++ (lw_privs_3 ++ (lw_privs_4)))
def lw_tbl : List Cond := k2_sels lw_privs ++ tables_1
theorem lw_privs_ok : ∀ q ∈ lw_privs, lw_okq q := by
  show ∀ q ∈ lw_privs_1 ++ (lw_privs_2 ++ (lw_privs_3 ++ (lw_privs_4))), lw_okq q
  exact List.forall_mem_append.mpr ⟨lw_r1, List.forall_mem_append.mpr ⟨lw_r2, List.forall_mem_append.mpr ⟨lw_r3, lw_r4⟩⟩⟩
def RX0 : String := "FlowFold$Flow"
def TX0 : u_T := fun k => match k with
  | 0 => ("FlowFold$Flow", "jumps", "LFlowFold$Jumps;", true)
  | 1 => ("FlowFold$Flow", "targets", "[I", true)
  | 2 => ("FlowFold$Flow", "states", "[I", true)
  | 3 => ("FlowFold$Flow", "done", "[I", true)
  | 4 => ("FlowFold$Flow", "places", "[I", true)
  | 5 => ("FlowFold$Flow", "rulers", "[I", true)
  | 6 => ("FlowFold$Flow", "size", "I", false)
  | 7 => ("FlowFold$Flow", "reached", "I", false)
  | 8 => ("FlowFold$Flow", "edges", "I", false)
  | 9 => ("FlowFold$Flow", "backs", "I", false)
  | 10 => ("FlowFold$Flow", "bads", "I", false)
  | 11 => ("FlowFold$Flow", "heads", "I", false)
  | _ => ("FlowFold$Flow", "merges", "I", false)
def tyX0 : Nat → FieldType := fun k => match k with
  | 0 => .object "FlowFold$Jumps"
  | 1 => .array .int
  | 2 => .array .int
  | 3 => .array .int
  | 4 => .array .int
  | 5 => .array .int
  | 6 => .int
  | 7 => .int
  | 8 => .int
  | 9 => .int
  | 10 => .int
  | 11 => .int
  | _ => .int
abbrev wsX00 : List Cond := u_ws RX0 TX0 13
theorem nmX0 : ∀ a, a < 13 → ∀ b, b < 13 → a ≠ b → (TX0 a).2.1 ≠ (TX0 b).2.1 := by decide +kernel
theorem tyX0_ok : ∀ k, k < 13 → parseFieldDescriptor (TX0 k).2.2.1 = some (tyX0 k) := by decide +kernel
abbrev cX0_init : ByteArray := prog_2_method_1_code
def yX0_init : MethodName := ⟨RX0, "<init>", "(LFlowFold$Jumps;)V"⟩
abbrev cX0_look : ByteArray := prog_2_method_2_code
def yX0_look : MethodName := ⟨RX0, "look", "(I)V"⟩
abbrev cX0_folds : ByteArray := prog_2_method_3_code
def yX0_folds : MethodName := ⟨RX0, "folds", "()Z"⟩
abbrev cX0_nodeAt : ByteArray := prog_2_method_4_code
def yX0_nodeAt : MethodName := ⟨RX0, "nodeAt", "(I)I"⟩
abbrev cX0_placeOf : ByteArray := prog_2_method_5_code
def yX0_placeOf : MethodName := ⟨RX0, "placeOf", "(I)I"⟩
abbrev cX0_stateOf : ByteArray := prog_2_method_6_code
def yX0_stateOf : MethodName := ⟨RX0, "stateOf", "(II)I"⟩
abbrev cX0_isHead : ByteArray := prog_2_method_7_code
def yX0_isHead : MethodName := ⟨RX0, "isHead", "(I)Z"⟩
abbrev cX0_isMerge : ByteArray := prog_2_method_8_code
def yX0_isMerge : MethodName := ⟨RX0, "isMerge", "(I)Z"⟩
abbrev cX0_rules : ByteArray := prog_2_method_9_code
def yX0_rules : MethodName := ⟨RX0, "rules", "(II)Z"⟩
abbrev cX0_ruledBy : ByteArray := prog_2_method_10_code
def yX0_ruledBy : MethodName := ⟨RX0, "ruledBy", "(I)I"⟩
abbrev cX0_lordOf : ByteArray := prog_2_method_11_code
def yX0_lordOf : MethodName := ⟨RX0, "lordOf", "(I)I"⟩
abbrev cX0_findTargets : ByteArray := prog_2_method_12_code
def yX0_findTargets : MethodName := ⟨RX0, "findTargets", "(I)V"⟩
abbrev cX0_doNode : ByteArray := prog_2_method_13_code
def yX0_doNode : MethodName := ⟨RX0, "doNode", "(II)V"⟩
abbrev cX0_findRulers : ByteArray := prog_2_method_14_code
def yX0_findRulers : MethodName := ⟨RX0, "findRulers", "()V"⟩
abbrev cX0_strikeBehind : ByteArray := prog_2_method_15_code
def yX0_strikeBehind : MethodName := ⟨RX0, "strikeBehind", "(II)Z"⟩
abbrev cX0_weighEdges : ByteArray := prog_2_method_16_code
def yX0_weighEdges : MethodName := ⟨RX0, "weighEdges", "()V"⟩
def RX1 : String := "FlowFold$Jumps"
def TX1 : u_T := fun k => match k with
  | 0 => ("FlowFold$Jumps", "nodes", "I", false)
  | 1 => ("FlowFold$Jumps", "kinds", "[I", true)
  | 2 => ("FlowFold$Jumps", "firsts", "[I", true)
  | _ => ("FlowFold$Jumps", "seconds", "[I", true)
def tyX1 : Nat → FieldType := fun k => match k with
  | 0 => .int
  | 1 => .array .int
  | 2 => .array .int
  | _ => .array .int
abbrev wsX10 : List Cond := u_ws RX1 TX1 4
theorem nmX1 : ∀ a, a < 4 → ∀ b, b < 4 → a ≠ b → (TX1 a).2.1 ≠ (TX1 b).2.1 := by decide +kernel
theorem tyX1_ok : ∀ k, k < 4 → parseFieldDescriptor (TX1 k).2.2.1 = some (tyX1 k) := by decide +kernel
abbrev cX1_init : ByteArray := prog_3_method_1_code
def yX1_init : MethodName := ⟨RX1, "<init>", "()V"⟩
abbrev cX1_has : ByteArray := prog_3_method_2_code
def yX1_has : MethodName := ⟨RX1, "has", "(I)Z"⟩
abbrev cX1_grow : ByteArray := prog_3_method_3_code
def yX1_grow : MethodName := ⟨RX1, "grow", "(I)Z"⟩
abbrev cX1_target : ByteArray := prog_3_method_4_code
def yX1_target : MethodName := ⟨RX1, "target", "(II)I"⟩
abbrev cX1_put : ByteArray := prog_3_method_5_code
def yX1_put : MethodName := ⟨RX1, "put", "(III)V"⟩
abbrev cX1_copyFrom : ByteArray := prog_3_method_6_code
def yX1_copyFrom : MethodName := ⟨RX1, "copyFrom", "(LFlowFold$Jumps;)V"⟩
def RX2 : String := "FlowFold$Page"
def TX2 : u_T := fun k => match k with
  | 0 => ("FlowFold$Page", "codes", "[I", true)
  | 1 => ("FlowFold$Page", "size", "I", false)
  | 2 => ("FlowFold$Page", "whole", "Z", false)
  | _ => ("FlowFold$Page", "highest", "I", false)
def tyX2 : Nat → FieldType := fun k => match k with
  | 0 => .array .int
  | 1 => .int
  | 2 => .boolean
  | _ => .int
abbrev wsX20 : List Cond := u_ws RX2 TX2 4
theorem nmX2 : ∀ a, a < 4 → ∀ b, b < 4 → a ≠ b → (TX2 a).2.1 ≠ (TX2 b).2.1 := by decide +kernel
theorem tyX2_ok : ∀ k, k < 4 → parseFieldDescriptor (TX2 k).2.2.1 = some (tyX2 k) := by decide +kernel
abbrev cX2_init : ByteArray := prog_4_method_1_code
def yX2_init : MethodName := ⟨RX2, "<init>", "()V"⟩
abbrev cX2_add : ByteArray := prog_4_method_2_code
def yX2_add : MethodName := ⟨RX2, "add", "(I)Z"⟩
abbrev cX2_readInto : ByteArray := prog_4_method_3_code
def yX2_readInto : MethodName := ⟨RX2, "readInto", "(LFlowFold$Jumps;)I"⟩
def RX3 : String := "FlowFold$Seen"
def TX3 : u_T := fun k => match k with
  | 0 => ("FlowFold$Seen", "size", "I", false)
  | 1 => ("FlowFold$Seen", "nodes", "[I", true)
  | 2 => ("FlowFold$Seen", "visits", "[I", true)
  | _ => ("FlowFold$Seen", "dids", "[I", true)
def tyX3 : Nat → FieldType := fun k => match k with
  | 0 => .int
  | 1 => .array .int
  | 2 => .array .int
  | _ => .array .int
abbrev wsX30 : List Cond := u_ws RX3 TX3 4
theorem nmX3 : ∀ a, a < 4 → ∀ b, b < 4 → a ≠ b → (TX3 a).2.1 ≠ (TX3 b).2.1 := by decide +kernel
theorem tyX3_ok : ∀ k, k < 4 → parseFieldDescriptor (TX3 k).2.2.1 = some (tyX3 k) := by decide +kernel
abbrev cX3_init : ByteArray := prog_5_method_1_code
def yX3_init : MethodName := ⟨RX3, "<init>", "()V"⟩
abbrev cX3_add : ByteArray := prog_5_method_2_code
def yX3_add : MethodName := ⟨RX3, "add", "(III)Z"⟩
abbrev cX3_copyFrom : ByteArray := prog_5_method_3_code
def yX3_copyFrom : MethodName := ⟨RX3, "copyFrom", "(LFlowFold$Seen;)V"⟩
abbrev cX3_sortsOf : ByteArray := prog_5_method_4_code
def yX3_sortsOf : MethodName := ⟨RX3, "sortsOf", "(I)I"⟩
abbrev cX3_askFor : ByteArray := prog_5_method_5_code
def yX3_askFor : MethodName := ⟨RX3, "askFor", "(I)I"⟩
abbrev cX3_sortsThatDo : ByteArray := prog_5_method_6_code
def yX3_sortsThatDo : MethodName := ⟨RX3, "sortsThatDo", "(II)I"⟩
def RX4 : String := "FlowFold$Signs"
def TX4 : u_T := fun k => match k with
  | 0 => ("FlowFold$Signs", "jumps", "LFlowFold$Jumps;", true)
  | 1 => ("FlowFold$Signs", "flow", "LFlowFold$Flow;", true)
  | 2 => ("FlowFold$Signs", "row", "[I", true)
  | 3 => ("FlowFold$Signs", "size", "I", false)
  | 4 => ("FlowFold$Signs", "waysOut", "I", false)
  | 5 => ("FlowFold$Signs", "depths", "I", false)
  | 6 => ("FlowFold$Signs", "openMost", "I", false)
  | 7 => ("FlowFold$Signs", "open", "[I", true)
  | _ => ("FlowFold$Signs", "opened", "I", false)
def tyX4 : Nat → FieldType := fun k => match k with
  | 0 => .object "FlowFold$Jumps"
  | 1 => .object "FlowFold$Flow"
  | 2 => .array .int
  | 3 => .int
  | 4 => .int
  | 5 => .int
  | 6 => .int
  | 7 => .array .int
  | _ => .int
abbrev wsX40 : List Cond := u_ws RX4 TX4 9
theorem nmX4 : ∀ a, a < 9 → ∀ b, b < 9 → a ≠ b → (TX4 a).2.1 ≠ (TX4 b).2.1 := by decide +kernel
theorem tyX4_ok : ∀ k, k < 9 → parseFieldDescriptor (TX4 k).2.2.1 = some (tyX4 k) := by decide +kernel
abbrev cX4_init : ByteArray := prog_6_method_1_code
def yX4_init : MethodName := ⟨RX4, "<init>", "(LFlowFold$Jumps;LFlowFold$Flow;)V"⟩
abbrev cX4_write : ByteArray := prog_6_method_2_code
def yX4_write : MethodName := ⟨RX4, "write", "()V"⟩
abbrev cX4_putTree : ByteArray := prog_6_method_3_code
def yX4_putTree : MethodName := ⟨RX4, "putTree", "(II)V"⟩
abbrev cX4_putWithin : ByteArray := prog_6_method_4_code
def yX4_putWithin : MethodName := ⟨RX4, "putWithin", "(II)V"⟩
abbrev cX4_isBlockIn : ByteArray := prog_6_method_5_code
def yX4_isBlockIn : MethodName := ⟨RX4, "isBlockIn", "(II)Z"⟩
abbrev cX4_putBranch : ByteArray := prog_6_method_6_code
def yX4_putBranch : MethodName := ⟨RX4, "putBranch", "(III)V"⟩
abbrev cX4_depthOf : ByteArray := prog_6_method_7_code
def yX4_depthOf : MethodName := ⟨RX4, "depthOf", "(I)I"⟩
abbrev cX4_putWayOut : ByteArray := prog_6_method_8_code
def yX4_putWayOut : MethodName := ⟨RX4, "putWayOut", "(II)V"⟩
abbrev cX4_putOpening : ByteArray := prog_6_method_9_code
def yX4_putOpening : MethodName := ⟨RX4, "putOpening", "(I)V"⟩
abbrev cX4_putClosing : ByteArray := prog_6_method_10_code
def yX4_putClosing : MethodName := ⟨RX4, "putClosing", "(I)V"⟩
abbrev cX4_put : ByteArray := prog_6_method_11_code
def yX4_put : MethodName := ⟨RX4, "put", "(I)V"⟩
def RX5 : String := "FlowFold$Way"
def TX5 : u_T := fun k => match k with
  | 0 => ("FlowFold$Way", "row", "[I", true)
  | 1 => ("FlowFold$Way", "size", "I", false)
  | _ => ("FlowFold$Way", "visits", "[I", true)
def tyX5 : Nat → FieldType := fun k => match k with
  | 0 => .array .int
  | 1 => .int
  | _ => .array .int
abbrev wsX50 : List Cond := u_ws RX5 TX5 3
theorem nmX5 : ∀ a, a < 3 → ∀ b, b < 3 → a ≠ b → (TX5 a).2.1 ≠ (TX5 b).2.1 := by decide +kernel
theorem tyX5_ok : ∀ k, k < 3 → parseFieldDescriptor (TX5 k).2.2.1 = some (tyX5 k) := by decide +kernel
abbrev cX5_init : ByteArray := prog_7_method_1_code
def yX5_init : MethodName := ⟨RX5, "<init>", "()V"⟩
abbrev cX5_go : ByteArray := prog_7_method_2_code
def yX5_go : MethodName := ⟨RX5, "go", "(LFlowFold$Jumps;I)V"⟩
def RX6 : String := "FlowFold"
def TX6 : u_T := fun k => match k with
  | 0 => ("FlowFold", "page", "LFlowFold$Page;", true)
  | 1 => ("FlowFold", "jumps", "LFlowFold$Jumps;", true)
  | 2 => ("FlowFold", "flow", "LFlowFold$Flow;", true)
  | 3 => ("FlowFold", "signs", "LFlowFold$Signs;", true)
  | 4 => ("FlowFold", "way", "LFlowFold$Way;", true)
  | 5 => ("FlowFold", "seen", "LFlowFold$Seen;", true)
  | 6 => ("FlowFold", "keptJumps", "LFlowFold$Jumps;", true)
  | 7 => ("FlowFold", "keptSeen", "LFlowFold$Seen;", true)
  | 8 => ("FlowFold", "draft", "LFlowFold$Jumps;", true)
  | 9 => ("FlowFold", "trial", "LFlowFold$Flow;", true)
  | 10 => ("FlowFold", "kept", "Z", false)
  | 11 => ("FlowFold", "timesRead", "I", false)
  | _ => ("FlowFold", "timesMended", "I", false)
def tyX6 : Nat → FieldType := fun k => match k with
  | 0 => .object "FlowFold$Page"
  | 1 => .object "FlowFold$Jumps"
  | 2 => .object "FlowFold$Flow"
  | 3 => .object "FlowFold$Signs"
  | 4 => .object "FlowFold$Way"
  | 5 => .object "FlowFold$Seen"
  | 6 => .object "FlowFold$Jumps"
  | 7 => .object "FlowFold$Seen"
  | 8 => .object "FlowFold$Jumps"
  | 9 => .object "FlowFold$Flow"
  | 10 => .boolean
  | 11 => .int
  | _ => .int
abbrev wsX60 : List Cond := u_ws RX6 TX6 13
theorem nmX6 : ∀ a, a < 13 → ∀ b, b < 13 → a ≠ b → (TX6 a).2.1 ≠ (TX6 b).2.1 := by decide +kernel
theorem tyX6_ok : ∀ k, k < 13 → parseFieldDescriptor (TX6 k).2.2.1 = some (tyX6 k) := by decide +kernel
abbrev cX6_init : ByteArray := prog_1_method_1_code
def yX6_init : MethodName := ⟨RX6, "<init>", "()V"⟩
abbrev cX6_letter : ByteArray := prog_1_method_2_code
def yX6_letter : MethodName := ⟨RX6, "letter", "(I)I"⟩
abbrev cX6_blank : ByteArray := prog_1_method_3_code
def yX6_blank : MethodName := ⟨RX6, "blank", "()I"⟩
abbrev cX6_fault : ByteArray := prog_1_method_4_code
def yX6_fault : MethodName := ⟨RX6, "fault", "()I"⟩
abbrev cX6_graph : ByteArray := prog_1_method_5_code
def yX6_graph : MethodName := ⟨RX6, "graph", "()I"⟩
abbrev cX6_node : ByteArray := prog_1_method_6_code
def yX6_node : MethodName := ⟨RX6, "node", "(II)I"⟩
abbrev cX6_as : ByteArray := prog_1_method_7_code
def yX6_as : MethodName := ⟨RX6, "as", "(II)I"⟩
abbrev cX6_dominates : ByteArray := prog_1_method_8_code
def yX6_dominates : MethodName := ⟨RX6, "dominates", "(II)I"⟩
abbrev cX6_edge : ByteArray := prog_1_method_9_code
def yX6_edge : MethodName := ⟨RX6, "edge", "(II)I"⟩
abbrev cX6_aim : ByteArray := prog_1_method_10_code
def yX6_aim : MethodName := ⟨RX6, "aim", "(III)I"⟩
abbrev cX6_be : ByteArray := prog_1_method_11_code
def yX6_be : MethodName := ⟨RX6, "be", "(II)I"⟩
abbrev cX6_walk : ByteArray := prog_1_method_12_code
def yX6_walk : MethodName := ⟨RX6, "walk", "(I)I"⟩
abbrev cX6_visit : ByteArray := prog_1_method_13_code
def yX6_visit : MethodName := ⟨RX6, "visit", "(I)I"⟩
abbrev cX6_sign : ByteArray := prog_1_method_14_code
def yX6_sign : MethodName := ⟨RX6, "sign", "(I)I"⟩
abbrev cX6_fold : ByteArray := prog_1_method_15_code
def yX6_fold : MethodName := ⟨RX6, "fold", "(I)I"⟩
abbrev cX6_mend : ByteArray := prog_1_method_16_code
def yX6_mend : MethodName := ⟨RX6, "mend", "(I)I"⟩
abbrev cX6_see : ByteArray := prog_1_method_17_code
def yX6_see : MethodName := ⟨RX6, "see", "(III)I"⟩
abbrev cX6_forget : ByteArray := prog_1_method_18_code
def yX6_forget : MethodName := ⟨RX6, "forget", "()I"⟩
abbrev cX6_drawn : ByteArray := prog_1_method_19_code
def yX6_drawn : MethodName := ⟨RX6, "drawn", "(III)I"⟩
abbrev cX6_image : ByteArray := prog_1_method_20_code
def yX6_image : MethodName := ⟨RX6, "image", "()I"⟩
abbrev cX6_restore : ByteArray := prog_1_method_21_code
def yX6_restore : MethodName := ⟨RX6, "restore", "()I"⟩
abbrev cX6_count : ByteArray := prog_1_method_22_code
def yX6_count : MethodName := ⟨RX6, "count", "(I)I"⟩
abbrev cX6_digest : ByteArray := prog_1_method_23_code
def yX6_digest : MethodName := ⟨RX6, "digest", "()J"⟩
abbrev cX6_joined : ByteArray := prog_1_method_24_code
def yX6_joined : MethodName := ⟨RX6, "joined", "(J[II)J"⟩
abbrev cX6_lookAnew : ByteArray := prog_1_method_25_code
def yX6_lookAnew : MethodName := ⟨RX6, "lookAnew", "()V"⟩
abbrev cX6_fewestLeftOut : ByteArray := prog_1_method_26_code
def yX6_fewestLeftOut : MethodName := ⟨RX6, "fewestLeftOut", "()I"⟩
abbrev cX6_leastLeftOut : ByteArray := prog_1_method_27_code
def yX6_leastLeftOut : MethodName := ⟨RX6, "leastLeftOut", "(III)I"⟩
abbrev cX6_drawDraft : ByteArray := prog_1_method_28_code
def yX6_drawDraft : MethodName := ⟨RX6, "drawDraft", "(I)I"⟩
abbrev cX6_nextSeed : ByteArray := prog_1_method_29_code
def yX6_nextSeed : MethodName := ⟨RX6, "nextSeed", "(I)I"⟩
abbrev cX6_drawBy : ByteArray := prog_1_method_30_code
def yX6_drawBy : MethodName := ⟨RX6, "drawBy", "(II)I"⟩
abbrev cX6_isKind : ByteArray := prog_1_method_31_code
def yX6_isKind : MethodName := ⟨RX6, "isKind", "(I)Z"⟩
abbrev cX6_isEnd : ByteArray := prog_1_method_32_code
def yX6_isEnd : MethodName := ⟨RX6, "isEnd", "(I)Z"⟩
abbrev cX6_endsOf : ByteArray := prog_1_method_33_code
def yX6_endsOf : MethodName := ⟨RX6, "endsOf", "(I)I"⟩
abbrev cX6_doesAt : ByteArray := prog_1_method_34_code
def yX6_doesAt : MethodName := ⟨RX6, "doesAt", "(III)I"⟩
def RX7 : String := "FlowFoldModel"
def TX7 : u_T := fun k => match k with
  | 0 => ("FlowFoldModel", "graphs", "I", false)
  | 1 => ("FlowFoldModel", "nodes", "I", false)
  | 2 => ("FlowFoldModel", "kindOf", "[I", true)
  | 3 => ("FlowFoldModel", "to", "[I", true)
  | 4 => ("FlowFoldModel", "visits", "I", false)
  | 5 => ("FlowFoldModel", "visited", "[I", true)
  | 6 => ("FlowFoldModel", "mends", "I", false)
  | 7 => ("FlowFoldModel", "seen", "I", false)
  | 8 => ("FlowFoldModel", "seenNode", "[I", true)
  | 9 => ("FlowFoldModel", "seenVisit", "[I", true)
  | 10 => ("FlowFoldModel", "seenDid", "[I", true)
  | 11 => ("FlowFoldModel", "pageLength", "I", false)
  | 12 => ("FlowFoldModel", "page", "[B", true)
  | 13 => ("FlowFoldModel", "isWhole", "Z", false)
  | 14 => ("FlowFoldModel", "newNodes", "I", false)
  | 15 => ("FlowFoldModel", "most", "I", false)
  | 16 => ("FlowFoldModel", "newKind", "[I", true)
  | 17 => ("FlowFoldModel", "newTo", "[I", true)
  | 18 => ("FlowFoldModel", "many", "I", false)
  | 19 => ("FlowFoldModel", "gone", "I", false)
  | 20 => ("FlowFoldModel", "kindNow", "[I", true)
  | 21 => ("FlowFoldModel", "toNow", "[I", true)
  | 22 => ("FlowFoldModel", "reached", "I", false)
  | 23 => ("FlowFoldModel", "reachedMany", "I", false)
  | 24 => ("FlowFoldModel", "order", "[I", true)
  | 25 => ("FlowFoldModel", "placeOf", "[I", true)
  | 26 => ("FlowFoldModel", "above", "[I", true)
  | 27 => ("FlowFoldModel", "lord", "[I", true)
  | 28 => ("FlowFoldModel", "edges", "I", false)
  | 29 => ("FlowFoldModel", "backs", "I", false)
  | 30 => ("FlowFoldModel", "bads", "I", false)
  | 31 => ("FlowFoldModel", "heads", "I", false)
  | 32 => ("FlowFoldModel", "merges", "I", false)
  | 33 => ("FlowFoldModel", "begun", "[I", true)
  | 34 => ("FlowFoldModel", "step", "[I", true)
  | 35 => ("FlowFoldModel", "often", "[I", true)
  | 36 => ("FlowFoldModel", "signs", "I", false)
  | 37 => ("FlowFoldModel", "outs", "I", false)
  | 38 => ("FlowFoldModel", "deeps", "I", false)
  | 39 => ("FlowFoldModel", "deepest", "I", false)
  | 40 => ("FlowFoldModel", "signOf", "[I", true)
  | 41 => ("FlowFoldModel", "left", "I", false)
  | 42 => ("FlowFoldModel", "waiting", "[I", true)
  | 43 => ("FlowFoldModel", "opened", "I", false)
  | 44 => ("FlowFoldModel", "open", "[I", true)
  | 45 => ("FlowFoldModel", "seedNow", "J", false)
  | 46 => ("FlowFoldModel", "isKept", "Z", false)
  | 47 => ("FlowFoldModel", "keptGraph", "I", false)
  | 48 => ("FlowFoldModel", "keptSeen", "I", false)
  | 49 => ("FlowFoldModel", "keptKind", "[I", true)
  | 50 => ("FlowFoldModel", "keptTo", "[I", true)
  | 51 => ("FlowFoldModel", "keptNode", "[I", true)
  | 52 => ("FlowFoldModel", "keptVisit", "[I", true)
  | 53 => ("FlowFoldModel", "keptDid", "[I", true)
  | _ => ("FlowFoldModel", "h", "J", false)
def tyX7 : Nat → FieldType := fun k => match k with
  | 0 => .int
  | 1 => .int
  | 2 => .array .int
  | 3 => .array .int
  | 4 => .int
  | 5 => .array .int
  | 6 => .int
  | 7 => .int
  | 8 => .array .int
  | 9 => .array .int
  | 10 => .array .int
  | 11 => .int
  | 12 => .array .byte
  | 13 => .boolean
  | 14 => .int
  | 15 => .int
  | 16 => .array .int
  | 17 => .array .int
  | 18 => .int
  | 19 => .int
  | 20 => .array .int
  | 21 => .array .int
  | 22 => .int
  | 23 => .int
  | 24 => .array .int
  | 25 => .array .int
  | 26 => .array .int
  | 27 => .array .int
  | 28 => .int
  | 29 => .int
  | 30 => .int
  | 31 => .int
  | 32 => .int
  | 33 => .array .int
  | 34 => .array .int
  | 35 => .array .int
  | 36 => .int
  | 37 => .int
  | 38 => .int
  | 39 => .int
  | 40 => .array .int
  | 41 => .int
  | 42 => .array .int
  | 43 => .int
  | 44 => .array .int
  | 45 => .long
  | 46 => .boolean
  | 47 => .int
  | 48 => .int
  | 49 => .array .int
  | 50 => .array .int
  | 51 => .array .int
  | 52 => .array .int
  | 53 => .array .int
  | _ => .long
abbrev wsX70 : List Cond := u_ws RX7 TX7 55
theorem nmX7 : ∀ a, a < 55 → ∀ b, b < 55 → a ≠ b → (TX7 a).2.1 ≠ (TX7 b).2.1 := by decide +kernel
theorem tyX7_ok : ∀ k, k < 55 → parseFieldDescriptor (TX7 k).2.2.1 = some (tyX7 k) := by decide +kernel
abbrev cX7_init : ByteArray := prog_9_method_1_code
def yX7_init : MethodName := ⟨RX7, "<init>", "()V"⟩
abbrev cX7_within : ByteArray := prog_9_method_3_code
def yX7_within : MethodName := ⟨RX7, "within", "(III)Z"⟩
abbrev cX7_isIn : ByteArray := prog_9_method_4_code
def yX7_isIn : MethodName := ⟨RX7, "isIn", "(II)Z"⟩
abbrev cX7_size : ByteArray := prog_9_method_5_code
def yX7_size : MethodName := ⟨RX7, "size", "(I)I"⟩
abbrev cX7_letter : ByteArray := prog_9_method_6_code
def yX7_letter : MethodName := ⟨RX7, "letter", "(I)I"⟩
abbrev cX7_blank : ByteArray := prog_9_method_7_code
def yX7_blank : MethodName := ⟨RX7, "blank", "()I"⟩
abbrev cX7_kindBy : ByteArray := prog_9_method_8_code
def yX7_kindBy : MethodName := ⟨RX7, "kindBy", "(I)I"⟩
abbrev cX7_ends : ByteArray := prog_9_method_9_code
def yX7_ends : MethodName := ⟨RX7, "ends", "(I)I"⟩
abbrev cX7_at : ByteArray := prog_9_method_10_code
def yX7_at : MethodName := ⟨RX7, "at", "(I)I"⟩
abbrev cX7_read : ByteArray := prog_9_method_11_code
def yX7_read : MethodName := ⟨RX7, "read", "()I"⟩
abbrev cX7_fault : ByteArray := prog_9_method_12_code
def yX7_fault : MethodName := ⟨RX7, "fault", "()I"⟩
abbrev cX7_graph : ByteArray := prog_9_method_13_code
def yX7_graph : MethodName := ⟨RX7, "graph", "()I"⟩
abbrev cX7_isNode : ByteArray := prog_9_method_14_code
def yX7_isNode : MethodName := ⟨RX7, "isNode", "(I)Z"⟩
abbrev cX7_layGraph : ByteArray := prog_9_method_15_code
def yX7_layGraph : MethodName := ⟨RX7, "layGraph", "()V"⟩
abbrev cX7_isEdge : ByteArray := prog_9_method_16_code
def yX7_isEdge : MethodName := ⟨RX7, "isEdge", "(I)Z"⟩
abbrev cX7_layOrder : ByteArray := prog_9_method_17_code
def yX7_layOrder : MethodName := ⟨RX7, "layOrder", "()V"⟩
abbrev cX7_without : ByteArray := prog_9_method_18_code
def yX7_without : MethodName := ⟨RX7, "without", "(I)I"⟩
abbrev cX7_layLords : ByteArray := prog_9_method_19_code
def yX7_layLords : MethodName := ⟨RX7, "layLords", "()V"⟩
abbrev cX7_isLive : ByteArray := prog_9_method_20_code
def yX7_isLive : MethodName := ⟨RX7, "isLive", "(I)Z"⟩
abbrev cX7_retreats : ByteArray := prog_9_method_21_code
def yX7_retreats : MethodName := ⟨RX7, "retreats", "(I)Z"⟩
abbrev cX7_isBack : ByteArray := prog_9_method_22_code
def yX7_isBack : MethodName := ⟨RX7, "isBack", "(I)Z"⟩
abbrev cX7_layEdges : ByteArray := prog_9_method_23_code
def yX7_layEdges : MethodName := ⟨RX7, "layEdges", "()V"⟩
abbrev cX7_lay : ByteArray := prog_9_method_24_code
def yX7_lay : MethodName := ⟨RX7, "lay", "()V"⟩
abbrev cX7_layNow : ByteArray := prog_9_method_25_code
def yX7_layNow : MethodName := ⟨RX7, "layNow", "()V"⟩
abbrev cX7_dominated : ByteArray := prog_9_method_26_code
def yX7_dominated : MethodName := ⟨RX7, "dominated", "(I)I"⟩
abbrev cX7_nodeNow : ByteArray := prog_9_method_27_code
def yX7_nodeNow : MethodName := ⟨RX7, "nodeNow", "(II)I"⟩
abbrev cX7_node : ByteArray := prog_9_method_28_code
def yX7_node : MethodName := ⟨RX7, "node", "(II)I"⟩
abbrev cX7_as : ByteArray := prog_9_method_29_code
def yX7_as : MethodName := ⟨RX7, "as", "(II)I"⟩
abbrev cX7_dominates : ByteArray := prog_9_method_30_code
def yX7_dominates : MethodName := ⟨RX7, "dominates", "(II)I"⟩
abbrev cX7_edgeNow : ByteArray := prog_9_method_31_code
def yX7_edgeNow : MethodName := ⟨RX7, "edgeNow", "(I)I"⟩
abbrev cX7_edge : ByteArray := prog_9_method_32_code
def yX7_edge : MethodName := ⟨RX7, "edge", "(II)I"⟩
abbrev cX7_aim : ByteArray := prog_9_method_33_code
def yX7_aim : MethodName := ⟨RX7, "aim", "(III)I"⟩
abbrev cX7_be : ByteArray := prog_9_method_34_code
def yX7_be : MethodName := ⟨RX7, "be", "(II)I"⟩
abbrev cX7_endBy : ByteArray := prog_9_method_35_code
def yX7_endBy : MethodName := ⟨RX7, "endBy", "(III)I"⟩
abbrev cX7_walkNow : ByteArray := prog_9_method_36_code
def yX7_walkNow : MethodName := ⟨RX7, "walkNow", "(I)I"⟩
abbrev cX7_walk : ByteArray := prog_9_method_37_code
def yX7_walk : MethodName := ⟨RX7, "walk", "(I)I"⟩
abbrev cX7_visit : ByteArray := prog_9_method_38_code
def yX7_visit : MethodName := ⟨RX7, "visit", "(I)I"⟩
abbrev cX7_tell : ByteArray := prog_9_method_39_code
def yX7_tell : MethodName := ⟨RX7, "tell", "(I)V"⟩
abbrev cX7_later : ByteArray := prog_9_method_40_code
def yX7_later : MethodName := ⟨RX7, "later", "(I)V"⟩
abbrev cX7_opens : ByteArray := prog_9_method_41_code
def yX7_opens : MethodName := ⟨RX7, "opens", "(I)V"⟩
abbrev cX7_depthOf : ByteArray := prog_9_method_42_code
def yX7_depthOf : MethodName := ⟨RX7, "depthOf", "(I)I"⟩
abbrev cX7_goOut : ByteArray := prog_9_method_43_code
def yX7_goOut : MethodName := ⟨RX7, "goOut", "(II)V"⟩
abbrev cX7_isBlock : ByteArray := prog_9_method_44_code
def yX7_isBlock : MethodName := ⟨RX7, "isBlock", "(II)Z"⟩
abbrev cX7_layWithin : ByteArray := prog_9_method_45_code
def yX7_layWithin : MethodName := ⟨RX7, "layWithin", "(I)V"⟩
abbrev cX7_layTree : ByteArray := prog_9_method_46_code
def yX7_layTree : MethodName := ⟨RX7, "layTree", "(I)V"⟩
abbrev cX7_branch : ByteArray := prog_9_method_47_code
def yX7_branch : MethodName := ⟨RX7, "branch", "(I)V"⟩
abbrev cX7_doNext : ByteArray := prog_9_method_48_code
def yX7_doNext : MethodName := ⟨RX7, "doNext", "(I)V"⟩
abbrev cX7_layFold : ByteArray := prog_9_method_49_code
def yX7_layFold : MethodName := ⟨RX7, "layFold", "()V"⟩
abbrev cX7_sign : ByteArray := prog_9_method_50_code
def yX7_sign : MethodName := ⟨RX7, "sign", "(I)I"⟩
abbrev cX7_foldNow : ByteArray := prog_9_method_51_code
def yX7_foldNow : MethodName := ⟨RX7, "foldNow", "(I)I"⟩
abbrev cX7_fold : ByteArray := prog_9_method_52_code
def yX7_fold : MethodName := ⟨RX7, "fold", "(I)I"⟩
abbrev cX7_mendSet : ByteArray := prog_9_method_53_code
def yX7_mendSet : MethodName := ⟨RX7, "mendSet", "()I"⟩
abbrev cX7_mendNow : ByteArray := prog_9_method_54_code
def yX7_mendNow : MethodName := ⟨RX7, "mendNow", "(I)I"⟩
abbrev cX7_mend : ByteArray := prog_9_method_55_code
def yX7_mend : MethodName := ⟨RX7, "mend", "(I)I"⟩
abbrev cX7_could : ByteArray := prog_9_method_56_code
def yX7_could : MethodName := ⟨RX7, "could", "(III)Z"⟩
abbrev cX7_see : ByteArray := prog_9_method_57_code
def yX7_see : MethodName := ⟨RX7, "see", "(III)I"⟩
abbrev cX7_forget : ByteArray := prog_9_method_58_code
def yX7_forget : MethodName := ⟨RX7, "forget", "()I"⟩
abbrev cX7_sortsOf : ByteArray := prog_9_method_59_code
def yX7_sortsOf : MethodName := ⟨RX7, "sortsOf", "(I)I"⟩
abbrev cX7_askOf : ByteArray := prog_9_method_60_code
def yX7_askOf : MethodName := ⟨RX7, "askOf", "(I)I"⟩
abbrev cX7_draw : ByteArray := prog_9_method_61_code
def yX7_draw : MethodName := ⟨RX7, "draw", "(I)I"⟩
abbrev cX7_drawnNow : ByteArray := prog_9_method_62_code
def yX7_drawnNow : MethodName := ⟨RX7, "drawnNow", "(III)I"⟩
abbrev cX7_drawn : ByteArray := prog_9_method_63_code
def yX7_drawn : MethodName := ⟨RX7, "drawn", "(III)I"⟩
abbrev cX7_image : ByteArray := prog_9_method_64_code
def yX7_image : MethodName := ⟨RX7, "image", "()I"⟩
abbrev cX7_restore : ByteArray := prog_9_method_65_code
def yX7_restore : MethodName := ⟨RX7, "restore", "()I"⟩
abbrev cX7_ofGraph : ByteArray := prog_9_method_66_code
def yX7_ofGraph : MethodName := ⟨RX7, "ofGraph", "(I)I"⟩
abbrev cX7_howMany : ByteArray := prog_9_method_67_code
def yX7_howMany : MethodName := ⟨RX7, "howMany", "(I)I"⟩
abbrev cX7_count : ByteArray := prog_9_method_68_code
def yX7_count : MethodName := ⟨RX7, "count", "(I)I"⟩
abbrev cX7_mix : ByteArray := prog_9_method_69_code
def yX7_mix : MethodName := ⟨RX7, "mix", "(J)V"⟩
abbrev cX7_mixGraph : ByteArray := prog_9_method_70_code
def yX7_mixGraph : MethodName := ⟨RX7, "mixGraph", "()V"⟩
abbrev cX7_digest : ByteArray := prog_9_method_71_code
def yX7_digest : MethodName := ⟨RX7, "digest", "()J"⟩
def RJ6 : String := "java/lang/Integer"
abbrev cJ6_bitCount_0f7a4 : ByteArray := prog_11_method_49_code
def yJ6_bitCount_0f7a4 : MethodName := ⟨RJ6, "bitCount", "(I)I"⟩
def RJ0 : String := "java/lang/String"
abbrev cJ0_length_8abf5 : ByteArray := prog_13_method_54_code
def yJ0_length_8abf5 : MethodName := ⟨RJ0, "length", "()I"⟩
abbrev cJ0_indexOf_0f7a4 : ByteArray := prog_13_method_79_code
def yJ0_indexOf_0f7a4 : MethodName := ⟨RJ0, "indexOf", "(I)I"⟩
abbrev cJ0_indexOf_7cf53 : ByteArray := prog_13_method_80_code
def yJ0_indexOf_7cf53 : MethodName := ⟨RJ0, "indexOf", "(II)I"⟩
abbrev cJ0_coder_7d493 : ByteArray := prog_13_method_152_code
def yJ0_coder_7d493 : MethodName := ⟨RJ0, "coder", "()B"⟩
abbrev cJ0_isLatin1_aae02 : ByteArray := prog_13_method_154_code
def yJ0_isLatin1_aae02 : MethodName := ⟨RJ0, "isLatin1", "()Z"⟩
def RJ1 : String := "java/lang/StringLatin1"
abbrev cJ1_canEncode_9a6ad : ByteArray := prog_14_method_4_code
def yJ1_canEncode_9a6ad : MethodName := ⟨RJ1, "canEncode", "(I)Z"⟩
abbrev cJ1_indexOf_4cfef : ByteArray := prog_14_method_22_code
def yJ1_indexOf_4cfef : MethodName := ⟨RJ1, "indexOf", "([BIII)I"⟩
abbrev cJ1_indexOfChar_4cfef : ByteArray := prog_14_method_23_code
def yJ1_indexOfChar_4cfef : MethodName := ⟨RJ1, "indexOfChar", "([BIII)I"⟩
def RJ7 : String := "java/util/Arrays"
abbrev cJ7_fill_53178 : ByteArray := prog_17_method_103_code
def yJ7_fill_53178 : MethodName := ⟨RJ7, "fill", "([II)V"⟩
def RL : String := "FlowFoldLaw"
abbrev cL_law : ByteArray := code
def yL_law : MethodName := ⟨RL, "law", "([I)Z"⟩
abbrev vwCl : List vw_C := [(RX0, TX0, 13), (RX1, TX1, 4), (RX2, TX2, 4), (RX3, TX3, 4), (RX4, TX4, 9), (RX5, TX5, 3), (RX6, TX6, 13), (RX7, TX7, 55)]
/-- the tables' words that hold in every state of the run -/
def AW : List Cond := lw_tbl.filter goodWord
theorem AW_in {w : Cond} (h : w ∈ AW) : w ∈ lw_tbl := (List.mem_filter.mp h).1
theorem AW_good {w : Cond} (h : w ∈ AW) : (w.onTables && w.keeps) = true ∨ ∃ ty, w = .arrayClass ty := good_of_word (List.mem_filter.mp h).2
theorem AW_at {w : Cond} (i : Nat) (h : lw_tbl[i]? = some w) (hg : goodWord w = true) : w ∈ AW := List.mem_filter.mpr ⟨List.mem_of_getElem? h, hg⟩
theorem q_se_X6_lookAnew : Cond.selects RX6 yX6_lookAnew yX6_lookAnew ∈ AW := AW_at 0 (by decide +kernel) (by decide +kernel)
theorem q_se_X0_findTargets : Cond.selects RX0 yX0_findTargets yX0_findTargets ∈ AW := AW_at 1 (by decide +kernel) (by decide +kernel)
theorem q_se_X0_doNode : Cond.selects RX0 yX0_doNode yX0_doNode ∈ AW := AW_at 2 (by decide +kernel) (by decide +kernel)
theorem q_se_X0_findRulers : Cond.selects RX0 yX0_findRulers yX0_findRulers ∈ AW := AW_at 3 (by decide +kernel) (by decide +kernel)
theorem q_se_X0_strikeBehind : Cond.selects RX0 yX0_strikeBehind yX0_strikeBehind ∈ AW := AW_at 4 (by decide +kernel) (by decide +kernel)
theorem q_se_X0_weighEdges : Cond.selects RX0 yX0_weighEdges yX0_weighEdges ∈ AW := AW_at 5 (by decide +kernel) (by decide +kernel)
theorem q_se_X4_putTree : Cond.selects RX4 yX4_putTree yX4_putTree ∈ AW := AW_at 6 (by decide +kernel) (by decide +kernel)
theorem q_se_X4_putOpening : Cond.selects RX4 yX4_putOpening yX4_putOpening ∈ AW := AW_at 7 (by decide +kernel) (by decide +kernel)
theorem q_se_X4_put : Cond.selects RX4 yX4_put yX4_put ∈ AW := AW_at 8 (by decide +kernel) (by decide +kernel)
theorem q_se_X4_putWithin : Cond.selects RX4 yX4_putWithin yX4_putWithin ∈ AW := AW_at 9 (by decide +kernel) (by decide +kernel)
theorem q_se_X4_isBlockIn : Cond.selects RX4 yX4_isBlockIn yX4_isBlockIn ∈ AW := AW_at 10 (by decide +kernel) (by decide +kernel)
theorem q_se_X4_putBranch : Cond.selects RX4 yX4_putBranch yX4_putBranch ∈ AW := AW_at 11 (by decide +kernel) (by decide +kernel)
theorem q_se_X4_depthOf : Cond.selects RX4 yX4_depthOf yX4_depthOf ∈ AW := AW_at 12 (by decide +kernel) (by decide +kernel)
theorem q_se_X4_putWayOut : Cond.selects RX4 yX4_putWayOut yX4_putWayOut ∈ AW := AW_at 13 (by decide +kernel) (by decide +kernel)
theorem q_se_X4_putClosing : Cond.selects RX4 yX4_putClosing yX4_putClosing ∈ AW := AW_at 14 (by decide +kernel) (by decide +kernel)
theorem q_se_X6_fewestLeftOut : Cond.selects RX6 yX6_fewestLeftOut yX6_fewestLeftOut ∈ AW := AW_at 15 (by decide +kernel) (by decide +kernel)
theorem q_se_X6_leastLeftOut : Cond.selects RX6 yX6_leastLeftOut yX6_leastLeftOut ∈ AW := AW_at 16 (by decide +kernel) (by decide +kernel)
theorem q_se_X6_drawDraft : Cond.selects RX6 yX6_drawDraft yX6_drawDraft ∈ AW := AW_at 17 (by decide +kernel) (by decide +kernel)
theorem q_se_X7_read : Cond.selects RX7 yX7_read yX7_read ∈ AW := AW_at 18 (by decide +kernel) (by decide +kernel)
theorem q_se_X7_at : Cond.selects RX7 yX7_at yX7_at ∈ AW := AW_at 19 (by decide +kernel) (by decide +kernel)
theorem q_se_X7_isNode : Cond.selects RX7 yX7_isNode yX7_isNode ∈ AW := AW_at 20 (by decide +kernel) (by decide +kernel)
theorem q_se_X7_layNow : Cond.selects RX7 yX7_layNow yX7_layNow ∈ AW := AW_at 21 (by decide +kernel) (by decide +kernel)
theorem q_se_X7_layGraph : Cond.selects RX7 yX7_layGraph yX7_layGraph ∈ AW := AW_at 22 (by decide +kernel) (by decide +kernel)
theorem q_se_X7_lay : Cond.selects RX7 yX7_lay yX7_lay ∈ AW := AW_at 23 (by decide +kernel) (by decide +kernel)
theorem q_se_X7_layOrder : Cond.selects RX7 yX7_layOrder yX7_layOrder ∈ AW := AW_at 24 (by decide +kernel) (by decide +kernel)
theorem q_se_X7_isEdge : Cond.selects RX7 yX7_isEdge yX7_isEdge ∈ AW := AW_at 25 (by decide +kernel) (by decide +kernel)
theorem q_se_X7_layLords : Cond.selects RX7 yX7_layLords yX7_layLords ∈ AW := AW_at 26 (by decide +kernel) (by decide +kernel)
theorem q_se_X7_without : Cond.selects RX7 yX7_without yX7_without ∈ AW := AW_at 27 (by decide +kernel) (by decide +kernel)
theorem q_se_X7_layEdges : Cond.selects RX7 yX7_layEdges yX7_layEdges ∈ AW := AW_at 28 (by decide +kernel) (by decide +kernel)
theorem q_se_X7_isLive : Cond.selects RX7 yX7_isLive yX7_isLive ∈ AW := AW_at 29 (by decide +kernel) (by decide +kernel)
theorem q_se_X7_isBack : Cond.selects RX7 yX7_isBack yX7_isBack ∈ AW := AW_at 30 (by decide +kernel) (by decide +kernel)
theorem q_se_X7_retreats : Cond.selects RX7 yX7_retreats yX7_retreats ∈ AW := AW_at 31 (by decide +kernel) (by decide +kernel)
theorem q_se_X7_nodeNow : Cond.selects RX7 yX7_nodeNow yX7_nodeNow ∈ AW := AW_at 32 (by decide +kernel) (by decide +kernel)
theorem q_se_X7_dominated : Cond.selects RX7 yX7_dominated yX7_dominated ∈ AW := AW_at 33 (by decide +kernel) (by decide +kernel)
theorem q_se_X7_sortsOf : Cond.selects RX7 yX7_sortsOf yX7_sortsOf ∈ AW := AW_at 34 (by decide +kernel) (by decide +kernel)
theorem q_se_X7_askOf : Cond.selects RX7 yX7_askOf yX7_askOf ∈ AW := AW_at 35 (by decide +kernel) (by decide +kernel)
theorem q_se_X7_edgeNow : Cond.selects RX7 yX7_edgeNow yX7_edgeNow ∈ AW := AW_at 36 (by decide +kernel) (by decide +kernel)
theorem q_se_X7_walkNow : Cond.selects RX7 yX7_walkNow yX7_walkNow ∈ AW := AW_at 37 (by decide +kernel) (by decide +kernel)
theorem q_se_X7_layFold : Cond.selects RX7 yX7_layFold yX7_layFold ∈ AW := AW_at 38 (by decide +kernel) (by decide +kernel)
theorem q_se_X7_later : Cond.selects RX7 yX7_later yX7_later ∈ AW := AW_at 39 (by decide +kernel) (by decide +kernel)
theorem q_se_X7_doNext : Cond.selects RX7 yX7_doNext yX7_doNext ∈ AW := AW_at 40 (by decide +kernel) (by decide +kernel)
theorem q_se_X7_layTree : Cond.selects RX7 yX7_layTree yX7_layTree ∈ AW := AW_at 41 (by decide +kernel) (by decide +kernel)
theorem q_se_X7_layWithin : Cond.selects RX7 yX7_layWithin yX7_layWithin ∈ AW := AW_at 42 (by decide +kernel) (by decide +kernel)
theorem q_se_X7_isBlock : Cond.selects RX7 yX7_isBlock yX7_isBlock ∈ AW := AW_at 43 (by decide +kernel) (by decide +kernel)
theorem q_se_X7_branch : Cond.selects RX7 yX7_branch yX7_branch ∈ AW := AW_at 44 (by decide +kernel) (by decide +kernel)
theorem q_se_X7_goOut : Cond.selects RX7 yX7_goOut yX7_goOut ∈ AW := AW_at 45 (by decide +kernel) (by decide +kernel)
theorem q_se_X7_depthOf : Cond.selects RX7 yX7_depthOf yX7_depthOf ∈ AW := AW_at 46 (by decide +kernel) (by decide +kernel)
theorem q_se_X7_tell : Cond.selects RX7 yX7_tell yX7_tell ∈ AW := AW_at 47 (by decide +kernel) (by decide +kernel)
theorem q_se_X7_opens : Cond.selects RX7 yX7_opens yX7_opens ∈ AW := AW_at 48 (by decide +kernel) (by decide +kernel)
theorem q_se_X7_foldNow : Cond.selects RX7 yX7_foldNow yX7_foldNow ∈ AW := AW_at 49 (by decide +kernel) (by decide +kernel)
theorem q_se_X7_mendNow : Cond.selects RX7 yX7_mendNow yX7_mendNow ∈ AW := AW_at 50 (by decide +kernel) (by decide +kernel)
theorem q_se_X7_mendSet : Cond.selects RX7 yX7_mendSet yX7_mendSet ∈ AW := AW_at 51 (by decide +kernel) (by decide +kernel)
theorem q_se_X7_drawnNow : Cond.selects RX7 yX7_drawnNow yX7_drawnNow ∈ AW := AW_at 52 (by decide +kernel) (by decide +kernel)
theorem q_se_X7_draw : Cond.selects RX7 yX7_draw yX7_draw ∈ AW := AW_at 53 (by decide +kernel) (by decide +kernel)
theorem q_se_X7_howMany : Cond.selects RX7 yX7_howMany yX7_howMany ∈ AW := AW_at 54 (by decide +kernel) (by decide +kernel)
theorem q_se_X7_ofGraph : Cond.selects RX7 yX7_ofGraph yX7_ofGraph ∈ AW := AW_at 55 (by decide +kernel) (by decide +kernel)
theorem q_se_X7_mixGraph : Cond.selects RX7 yX7_mixGraph yX7_mixGraph ∈ AW := AW_at 56 (by decide +kernel) (by decide +kernel)
theorem q_se_X7_mix : Cond.selects RX7 yX7_mix yX7_mix ∈ AW := AW_at 57 (by decide +kernel) (by decide +kernel)
theorem q_in_L : Cond.initialized RL ∈ AW := AW_at 58 (by decide +kernel) (by decide +kernel)
theorem q_in_X6 : Cond.initialized RX6 ∈ AW := AW_at 59 (by decide +kernel) (by decide +kernel)
theorem q_in_X2 : Cond.initialized RX2 ∈ AW := AW_at 60 (by decide +kernel) (by decide +kernel)
theorem q_in_X1 : Cond.initialized RX1 ∈ AW := AW_at 61 (by decide +kernel) (by decide +kernel)
theorem q_in_X0 : Cond.initialized RX0 ∈ AW := AW_at 62 (by decide +kernel) (by decide +kernel)
theorem q_in_X4 : Cond.initialized RX4 ∈ AW := AW_at 63 (by decide +kernel) (by decide +kernel)
theorem q_in_X5 : Cond.initialized RX5 ∈ AW := AW_at 64 (by decide +kernel) (by decide +kernel)
theorem q_in_X3 : Cond.initialized RX3 ∈ AW := AW_at 65 (by decide +kernel) (by decide +kernel)
theorem q_in_X7 : Cond.initialized RX7 ∈ AW := AW_at 66 (by decide +kernel) (by decide +kernel)
theorem q_in__java_lang_Math_ : Cond.initialized "java/lang/Math" ∈ AW := AW_at 67 (by decide +kernel) (by decide +kernel)
theorem q_in_J0 : Cond.initialized RJ0 ∈ AW := AW_at 68 (by decide +kernel) (by decide +kernel)
theorem q_in_J1 : Cond.initialized RJ1 ∈ AW := AW_at 69 (by decide +kernel) (by decide +kernel)
theorem q_in__java_lang_StringUTF16_ : Cond.initialized "java/lang/StringUTF16" ∈ AW := AW_at 70 (by decide +kernel) (by decide +kernel)
theorem q_in__jdk_internal_util_Preconditions_ : Cond.initialized "jdk/internal/util/Preconditions" ∈ AW := AW_at 71 (by decide +kernel) (by decide +kernel)
theorem q_in__java_lang_Character_ : Cond.initialized "java/lang/Character" ∈ AW := AW_at 72 (by decide +kernel) (by decide +kernel)
theorem q_in__java_lang_System_ : Cond.initialized "java/lang/System" ∈ AW := AW_at 73 (by decide +kernel) (by decide +kernel)
theorem q_in_J7 : Cond.initialized RJ7 ∈ AW := AW_at 74 (by decide +kernel) (by decide +kernel)
theorem q_in_J6 : Cond.initialized RJ6 ∈ AW := AW_at 75 (by decide +kernel) (by decide +kernel)
theorem q_cl_L_7 : Cond.classLink RL 7 RX6 ∈ AW := AW_at 76 (by decide +kernel) (by decide +kernel)
theorem q_ia_X6 : Cond.instantiable RX6 13 ∈ AW := AW_at 77 (by decide +kernel) (by decide +kernel)
theorem q_ml_L_9 : Cond.methodLink RL 9 yX6_init ∈ AW := AW_at 78 (by decide +kernel) (by decide +kernel)
theorem q_im_X6_init : Cond.instanceMethod yX6_init ∈ AW := AW_at 79 (by decide +kernel) (by decide +kernel)
theorem q_co_X6_init : Cond.code yX6_init cX6_init 1 none ∈ AW := AW_at 80 (by decide +kernel) (by decide +kernel)
theorem q_ml_X6_3 : Cond.methodLink RX6 3 objectInit ∈ AW := AW_at 81 (by decide +kernel) (by decide +kernel)
theorem q_im_oinit : Cond.instanceMethod objectInit ∈ AW := AW_at 82 (by decide +kernel) (by decide +kernel)
theorem q_co_oinit : Cond.code objectInit ⟨#[0xb1]⟩ 1 none ∈ AW := AW_at 83 (by decide +kernel) (by decide +kernel)
theorem q_cl_X6_9 : Cond.classLink RX6 9 RX2 ∈ AW := AW_at 84 (by decide +kernel) (by decide +kernel)
theorem q_ia_X2 : Cond.instantiable RX2 4 ∈ AW := AW_at 85 (by decide +kernel) (by decide +kernel)
theorem q_im_X2_init : Cond.instanceMethod yX2_init ∈ AW := AW_at 87 (by decide +kernel) (by decide +kernel)
theorem q_co_X2_init : Cond.code yX2_init cX2_init 1 none ∈ AW := AW_at 88 (by decide +kernel) (by decide +kernel)
theorem q_ml_X2_3 : Cond.methodLink RX2 3 objectInit ∈ AW := AW_at 89 (by decide +kernel) (by decide +kernel)
theorem q_fl_X2_9 : Cond.fieldLink RX2 9 "FlowFold$Page" "codes" "[I" ∈ AW := AW_at 90 (by decide +kernel) (by decide +kernel)
theorem q_fl_X6_239 : Cond.fieldLink RX6 239 "FlowFold$Page" "codes" "[I" ∈ AW := AW_at 91 (by decide +kernel) (by decide +kernel)
theorem q_fl_X2_15 : Cond.fieldLink RX2 15 "FlowFold$Page" "size" "I" ∈ AW := AW_at 92 (by decide +kernel) (by decide +kernel)
theorem q_fl_X6_71 : Cond.fieldLink RX6 71 "FlowFold$Page" "size" "I" ∈ AW := AW_at 93 (by decide +kernel) (by decide +kernel)
theorem q_fl_X2_24 : Cond.fieldLink RX2 24 "FlowFold$Page" "whole" "Z" ∈ AW := AW_at 94 (by decide +kernel) (by decide +kernel)
theorem q_fl_X6_79 : Cond.fieldLink RX6 79 "FlowFold$Page" "whole" "Z" ∈ AW := AW_at 95 (by decide +kernel) (by decide +kernel)
theorem q_fl_X2_28 : Cond.fieldLink RX2 28 "FlowFold$Page" "highest" "I" ∈ AW := AW_at 96 (by decide +kernel) (by decide +kernel)
theorem q_fl_X6_83 : Cond.fieldLink RX6 83 "FlowFold$Page" "highest" "I" ∈ AW := AW_at 97 (by decide +kernel) (by decide +kernel)
theorem q_ac_int : Cond.arrayClass .int ∈ AW := AW_at 107 (by decide +kernel) (by decide +kernel)
theorem q_cl_X6_16 : Cond.classLink RX6 16 RX1 ∈ AW := AW_at 108 (by decide +kernel) (by decide +kernel)
theorem q_ia_X1 : Cond.instantiable RX1 4 ∈ AW := AW_at 109 (by decide +kernel) (by decide +kernel)
theorem q_im_X1_init : Cond.instanceMethod yX1_init ∈ AW := AW_at 111 (by decide +kernel) (by decide +kernel)
theorem q_co_X1_init : Cond.code yX1_init cX1_init 1 none ∈ AW := AW_at 112 (by decide +kernel) (by decide +kernel)
theorem q_ml_X1_3 : Cond.methodLink RX1 3 objectInit ∈ AW := AW_at 113 (by decide +kernel) (by decide +kernel)
theorem q_fl_X1_21 : Cond.fieldLink RX1 21 "FlowFold$Jumps" "nodes" "I" ∈ AW := AW_at 114 (by decide +kernel) (by decide +kernel)
theorem q_fl_X2_19 : Cond.fieldLink RX2 19 "FlowFold$Jumps" "nodes" "I" ∈ AW := AW_at 115 (by decide +kernel) (by decide +kernel)
theorem q_fl_X6_86 : Cond.fieldLink RX6 86 "FlowFold$Jumps" "nodes" "I" ∈ AW := AW_at 116 (by decide +kernel) (by decide +kernel)
theorem q_fl_X0_76 : Cond.fieldLink RX0 76 "FlowFold$Jumps" "nodes" "I" ∈ AW := AW_at 117 (by decide +kernel) (by decide +kernel)
theorem q_fl_X1_9 : Cond.fieldLink RX1 9 "FlowFold$Jumps" "kinds" "[I" ∈ AW := AW_at 118 (by decide +kernel) (by decide +kernel)
theorem q_fl_X5_34 : Cond.fieldLink RX5 34 "FlowFold$Jumps" "kinds" "[I" ∈ AW := AW_at 119 (by decide +kernel) (by decide +kernel)
theorem q_fl_X4_83 : Cond.fieldLink RX4 83 "FlowFold$Jumps" "kinds" "[I" ∈ AW := AW_at 120 (by decide +kernel) (by decide +kernel)
theorem q_fl_X6_106 : Cond.fieldLink RX6 106 "FlowFold$Jumps" "kinds" "[I" ∈ AW := AW_at 121 (by decide +kernel) (by decide +kernel)
theorem q_fl_X0_87 : Cond.fieldLink RX0 87 "FlowFold$Jumps" "kinds" "[I" ∈ AW := AW_at 122 (by decide +kernel) (by decide +kernel)
theorem q_fl_X1_15 : Cond.fieldLink RX1 15 "FlowFold$Jumps" "firsts" "[I" ∈ AW := AW_at 123 (by decide +kernel) (by decide +kernel)
theorem q_fl_X6_110 : Cond.fieldLink RX6 110 "FlowFold$Jumps" "firsts" "[I" ∈ AW := AW_at 124 (by decide +kernel) (by decide +kernel)
theorem q_fl_X1_18 : Cond.fieldLink RX1 18 "FlowFold$Jumps" "seconds" "[I" ∈ AW := AW_at 125 (by decide +kernel) (by decide +kernel)
theorem q_fl_X6_113 : Cond.fieldLink RX6 113 "FlowFold$Jumps" "seconds" "[I" ∈ AW := AW_at 126 (by decide +kernel) (by decide +kernel)
theorem q_cl_X6_23 : Cond.classLink RX6 23 RX0 ∈ AW := AW_at 136 (by decide +kernel) (by decide +kernel)
theorem q_ia_X0 : Cond.instantiable RX0 13 ∈ AW := AW_at 137 (by decide +kernel) (by decide +kernel)
theorem q_ml_X6_25 : Cond.methodLink RX6 25 yX0_init ∈ AW := AW_at 138 (by decide +kernel) (by decide +kernel)
theorem q_im_X0_init : Cond.instanceMethod yX0_init ∈ AW := AW_at 139 (by decide +kernel) (by decide +kernel)
theorem q_co_X0_init : Cond.code yX0_init cX0_init 2 none ∈ AW := AW_at 140 (by decide +kernel) (by decide +kernel)
theorem q_ml_X0_3 : Cond.methodLink RX0 3 objectInit ∈ AW := AW_at 141 (by decide +kernel) (by decide +kernel)
theorem q_fl_X0_27 : Cond.fieldLink RX0 27 "FlowFold$Flow" "jumps" "LFlowFold$Jumps;" ∈ AW := AW_at 142 (by decide +kernel) (by decide +kernel)
theorem q_fl_X0_9 : Cond.fieldLink RX0 9 "FlowFold$Flow" "targets" "[I" ∈ AW := AW_at 143 (by decide +kernel) (by decide +kernel)
theorem q_fl_X0_15 : Cond.fieldLink RX0 15 "FlowFold$Flow" "states" "[I" ∈ AW := AW_at 144 (by decide +kernel) (by decide +kernel)
theorem q_fl_X0_18 : Cond.fieldLink RX0 18 "FlowFold$Flow" "done" "[I" ∈ AW := AW_at 145 (by decide +kernel) (by decide +kernel)
theorem q_fl_X0_21 : Cond.fieldLink RX0 21 "FlowFold$Flow" "places" "[I" ∈ AW := AW_at 146 (by decide +kernel) (by decide +kernel)
theorem q_fl_X0_24 : Cond.fieldLink RX0 24 "FlowFold$Flow" "rulers" "[I" ∈ AW := AW_at 147 (by decide +kernel) (by decide +kernel)
theorem q_fl_X0_39 : Cond.fieldLink RX0 39 "FlowFold$Flow" "size" "I" ∈ AW := AW_at 148 (by decide +kernel) (by decide +kernel)
theorem q_fl_X4_71 : Cond.fieldLink RX4 71 "FlowFold$Flow" "size" "I" ∈ AW := AW_at 149 (by decide +kernel) (by decide +kernel)
theorem q_fl_X6_209 : Cond.fieldLink RX6 209 "FlowFold$Flow" "size" "I" ∈ AW := AW_at 150 (by decide +kernel) (by decide +kernel)
theorem q_fl_X0_35 : Cond.fieldLink RX0 35 "FlowFold$Flow" "reached" "I" ∈ AW := AW_at 151 (by decide +kernel) (by decide +kernel)
theorem q_fl_X0_97 : Cond.fieldLink RX0 97 "FlowFold$Flow" "edges" "I" ∈ AW := AW_at 152 (by decide +kernel) (by decide +kernel)
theorem q_fl_X6_210 : Cond.fieldLink RX6 210 "FlowFold$Flow" "edges" "I" ∈ AW := AW_at 153 (by decide +kernel) (by decide +kernel)
theorem q_fl_X0_100 : Cond.fieldLink RX0 100 "FlowFold$Flow" "backs" "I" ∈ AW := AW_at 154 (by decide +kernel) (by decide +kernel)
theorem q_fl_X6_213 : Cond.fieldLink RX6 213 "FlowFold$Flow" "backs" "I" ∈ AW := AW_at 155 (by decide +kernel) (by decide +kernel)
theorem q_fl_X0_58 : Cond.fieldLink RX0 58 "FlowFold$Flow" "bads" "I" ∈ AW := AW_at 156 (by decide +kernel) (by decide +kernel)
theorem q_fl_X6_216 : Cond.fieldLink RX6 216 "FlowFold$Flow" "bads" "I" ∈ AW := AW_at 157 (by decide +kernel) (by decide +kernel)
theorem q_fl_X0_70 : Cond.fieldLink RX0 70 "FlowFold$Flow" "heads" "I" ∈ AW := AW_at 158 (by decide +kernel) (by decide +kernel)
theorem q_fl_X6_203 : Cond.fieldLink RX6 203 "FlowFold$Flow" "heads" "I" ∈ AW := AW_at 159 (by decide +kernel) (by decide +kernel)
theorem q_fl_X0_73 : Cond.fieldLink RX0 73 "FlowFold$Flow" "merges" "I" ∈ AW := AW_at 160 (by decide +kernel) (by decide +kernel)
theorem q_fl_X6_219 : Cond.fieldLink RX6 219 "FlowFold$Flow" "merges" "I" ∈ AW := AW_at 161 (by decide +kernel) (by decide +kernel)
theorem q_cl_X6_32 : Cond.classLink RX6 32 RX4 ∈ AW := AW_at 189 (by decide +kernel) (by decide +kernel)
theorem q_ia_X4 : Cond.instantiable RX4 9 ∈ AW := AW_at 190 (by decide +kernel) (by decide +kernel)
theorem q_ml_X6_34 : Cond.methodLink RX6 34 yX4_init ∈ AW := AW_at 191 (by decide +kernel) (by decide +kernel)
theorem q_im_X4_init : Cond.instanceMethod yX4_init ∈ AW := AW_at 192 (by decide +kernel) (by decide +kernel)
theorem q_co_X4_init : Cond.code yX4_init cX4_init 3 none ∈ AW := AW_at 193 (by decide +kernel) (by decide +kernel)
theorem q_ml_X4_3 : Cond.methodLink RX4 3 objectInit ∈ AW := AW_at 194 (by decide +kernel) (by decide +kernel)
theorem q_fl_X4_18 : Cond.fieldLink RX4 18 "FlowFold$Signs" "jumps" "LFlowFold$Jumps;" ∈ AW := AW_at 195 (by decide +kernel) (by decide +kernel)
theorem q_fl_X4_22 : Cond.fieldLink RX4 22 "FlowFold$Signs" "flow" "LFlowFold$Flow;" ∈ AW := AW_at 196 (by decide +kernel) (by decide +kernel)
theorem q_fl_X4_9 : Cond.fieldLink RX4 9 "FlowFold$Signs" "row" "[I" ∈ AW := AW_at 197 (by decide +kernel) (by decide +kernel)
theorem q_fl_X6_167 : Cond.fieldLink RX6 167 "FlowFold$Signs" "row" "[I" ∈ AW := AW_at 198 (by decide +kernel) (by decide +kernel)
theorem q_fl_X4_26 : Cond.fieldLink RX4 26 "FlowFold$Signs" "size" "I" ∈ AW := AW_at 199 (by decide +kernel) (by decide +kernel)
theorem q_fl_X6_166 : Cond.fieldLink RX6 166 "FlowFold$Signs" "size" "I" ∈ AW := AW_at 200 (by decide +kernel) (by decide +kernel)
theorem q_fl_X4_30 : Cond.fieldLink RX4 30 "FlowFold$Signs" "waysOut" "I" ∈ AW := AW_at 201 (by decide +kernel) (by decide +kernel)
theorem q_fl_X6_172 : Cond.fieldLink RX6 172 "FlowFold$Signs" "waysOut" "I" ∈ AW := AW_at 202 (by decide +kernel) (by decide +kernel)
theorem q_fl_X4_33 : Cond.fieldLink RX4 33 "FlowFold$Signs" "depths" "I" ∈ AW := AW_at 203 (by decide +kernel) (by decide +kernel)
theorem q_fl_X6_175 : Cond.fieldLink RX6 175 "FlowFold$Signs" "depths" "I" ∈ AW := AW_at 204 (by decide +kernel) (by decide +kernel)
theorem q_fl_X4_36 : Cond.fieldLink RX4 36 "FlowFold$Signs" "openMost" "I" ∈ AW := AW_at 205 (by decide +kernel) (by decide +kernel)
theorem q_fl_X6_178 : Cond.fieldLink RX6 178 "FlowFold$Signs" "openMost" "I" ∈ AW := AW_at 206 (by decide +kernel) (by decide +kernel)
theorem q_fl_X4_15 : Cond.fieldLink RX4 15 "FlowFold$Signs" "open" "[I" ∈ AW := AW_at 207 (by decide +kernel) (by decide +kernel)
theorem q_fl_X4_39 : Cond.fieldLink RX4 39 "FlowFold$Signs" "opened" "I" ∈ AW := AW_at 208 (by decide +kernel) (by decide +kernel)
theorem q_cl_X6_41 : Cond.classLink RX6 41 RX5 ∈ AW := AW_at 228 (by decide +kernel) (by decide +kernel)
theorem q_ia_X5 : Cond.instantiable RX5 3 ∈ AW := AW_at 229 (by decide +kernel) (by decide +kernel)
theorem q_im_X5_init : Cond.instanceMethod yX5_init ∈ AW := AW_at 231 (by decide +kernel) (by decide +kernel)
theorem q_co_X5_init : Cond.code yX5_init cX5_init 1 none ∈ AW := AW_at 232 (by decide +kernel) (by decide +kernel)
theorem q_ml_X5_3 : Cond.methodLink RX5 3 objectInit ∈ AW := AW_at 233 (by decide +kernel) (by decide +kernel)
theorem q_fl_X5_9 : Cond.fieldLink RX5 9 "FlowFold$Way" "row" "[I" ∈ AW := AW_at 234 (by decide +kernel) (by decide +kernel)
theorem q_fl_X6_163 : Cond.fieldLink RX6 163 "FlowFold$Way" "row" "[I" ∈ AW := AW_at 235 (by decide +kernel) (by decide +kernel)
theorem q_fl_X5_24 : Cond.fieldLink RX5 24 "FlowFold$Way" "size" "I" ∈ AW := AW_at 236 (by decide +kernel) (by decide +kernel)
theorem q_fl_X6_95 : Cond.fieldLink RX6 95 "FlowFold$Way" "size" "I" ∈ AW := AW_at 237 (by decide +kernel) (by decide +kernel)
theorem q_fl_X5_15 : Cond.fieldLink RX5 15 "FlowFold$Way" "visits" "[I" ∈ AW := AW_at 238 (by decide +kernel) (by decide +kernel)
theorem q_cl_X6_48 : Cond.classLink RX6 48 RX3 ∈ AW := AW_at 246 (by decide +kernel) (by decide +kernel)
theorem q_ia_X3 : Cond.instantiable RX3 4 ∈ AW := AW_at 247 (by decide +kernel) (by decide +kernel)
theorem q_im_X3_init : Cond.instanceMethod yX3_init ∈ AW := AW_at 249 (by decide +kernel) (by decide +kernel)
theorem q_co_X3_init : Cond.code yX3_init cX3_init 1 none ∈ AW := AW_at 250 (by decide +kernel) (by decide +kernel)
theorem q_ml_X3_3 : Cond.methodLink RX3 3 objectInit ∈ AW := AW_at 251 (by decide +kernel) (by decide +kernel)
theorem q_fl_X3_21 : Cond.fieldLink RX3 21 "FlowFold$Seen" "size" "I" ∈ AW := AW_at 252 (by decide +kernel) (by decide +kernel)
theorem q_fl_X6_96 : Cond.fieldLink RX6 96 "FlowFold$Seen" "size" "I" ∈ AW := AW_at 253 (by decide +kernel) (by decide +kernel)
theorem q_fl_X3_9 : Cond.fieldLink RX3 9 "FlowFold$Seen" "nodes" "[I" ∈ AW := AW_at 254 (by decide +kernel) (by decide +kernel)
theorem q_fl_X3_15 : Cond.fieldLink RX3 15 "FlowFold$Seen" "visits" "[I" ∈ AW := AW_at 255 (by decide +kernel) (by decide +kernel)
theorem q_fl_X3_18 : Cond.fieldLink RX3 18 "FlowFold$Seen" "dids" "[I" ∈ AW := AW_at 256 (by decide +kernel) (by decide +kernel)
theorem q_fl_X6_12 : Cond.fieldLink RX6 12 "FlowFold" "page" "LFlowFold$Page;" ∈ AW := AW_at 266 (by decide +kernel) (by decide +kernel)
theorem q_fl_X6_19 : Cond.fieldLink RX6 19 "FlowFold" "jumps" "LFlowFold$Jumps;" ∈ AW := AW_at 267 (by decide +kernel) (by decide +kernel)
theorem q_fl_X6_28 : Cond.fieldLink RX6 28 "FlowFold" "flow" "LFlowFold$Flow;" ∈ AW := AW_at 268 (by decide +kernel) (by decide +kernel)
theorem q_fl_X6_37 : Cond.fieldLink RX6 37 "FlowFold" "signs" "LFlowFold$Signs;" ∈ AW := AW_at 269 (by decide +kernel) (by decide +kernel)
theorem q_fl_X6_44 : Cond.fieldLink RX6 44 "FlowFold" "way" "LFlowFold$Way;" ∈ AW := AW_at 270 (by decide +kernel) (by decide +kernel)
theorem q_fl_X6_51 : Cond.fieldLink RX6 51 "FlowFold" "seen" "LFlowFold$Seen;" ∈ AW := AW_at 271 (by decide +kernel) (by decide +kernel)
theorem q_fl_X6_55 : Cond.fieldLink RX6 55 "FlowFold" "keptJumps" "LFlowFold$Jumps;" ∈ AW := AW_at 272 (by decide +kernel) (by decide +kernel)
theorem q_fl_X6_58 : Cond.fieldLink RX6 58 "FlowFold" "keptSeen" "LFlowFold$Seen;" ∈ AW := AW_at 273 (by decide +kernel) (by decide +kernel)
theorem q_fl_X6_61 : Cond.fieldLink RX6 61 "FlowFold" "draft" "LFlowFold$Jumps;" ∈ AW := AW_at 274 (by decide +kernel) (by decide +kernel)
theorem q_fl_X6_64 : Cond.fieldLink RX6 64 "FlowFold" "trial" "LFlowFold$Flow;" ∈ AW := AW_at 275 (by decide +kernel) (by decide +kernel)
theorem q_fl_X6_92 : Cond.fieldLink RX6 92 "FlowFold" "kept" "Z" ∈ AW := AW_at 276 (by decide +kernel) (by decide +kernel)
theorem q_fl_X6_89 : Cond.fieldLink RX6 89 "FlowFold" "timesRead" "I" ∈ AW := AW_at 277 (by decide +kernel) (by decide +kernel)
theorem q_fl_X6_181 : Cond.fieldLink RX6 181 "FlowFold" "timesMended" "I" ∈ AW := AW_at 278 (by decide +kernel) (by decide +kernel)
theorem q_ml_L_13 : Cond.methodLink RL 13 yX6_letter ∈ AW := AW_at 306 (by decide +kernel) (by decide +kernel)
theorem q_im_X6_letter : Cond.instanceMethod yX6_letter ∈ AW := AW_at 307 (by decide +kernel) (by decide +kernel)
theorem q_se_X6_letter : Cond.selects RX6 yX6_letter yX6_letter ∈ AW := AW_at 308 (by decide +kernel) (by decide +kernel)
theorem q_co_X6_letter : Cond.code yX6_letter cX6_letter 2 (some .int) ∈ AW := AW_at 309 (by decide +kernel) (by decide +kernel)
theorem q_ml_X6_67 : Cond.methodLink RX6 67 yX2_add ∈ AW := AW_at 310 (by decide +kernel) (by decide +kernel)
theorem q_im_X2_add : Cond.instanceMethod yX2_add ∈ AW := AW_at 311 (by decide +kernel) (by decide +kernel)
theorem q_se_X2_add : Cond.selects RX2 yX2_add yX2_add ∈ AW := AW_at 312 (by decide +kernel) (by decide +kernel)
theorem q_co_X2_add : Cond.code yX2_add cX2_add 2 (some .boolean) ∈ AW := AW_at 313 (by decide +kernel) (by decide +kernel)
theorem q_ml_L_18 : Cond.methodLink RL 18 yX6_blank ∈ AW := AW_at 314 (by decide +kernel) (by decide +kernel)
theorem q_im_X6_blank : Cond.instanceMethod yX6_blank ∈ AW := AW_at 315 (by decide +kernel) (by decide +kernel)
theorem q_se_X6_blank : Cond.selects RX6 yX6_blank yX6_blank ∈ AW := AW_at 316 (by decide +kernel) (by decide +kernel)
theorem q_co_X6_blank : Cond.code yX6_blank cX6_blank 2 (some .int) ∈ AW := AW_at 317 (by decide +kernel) (by decide +kernel)
theorem q_ml_L_23 : Cond.methodLink RL 23 yX6_fault ∈ AW := AW_at 318 (by decide +kernel) (by decide +kernel)
theorem q_im_X6_fault : Cond.instanceMethod yX6_fault ∈ AW := AW_at 319 (by decide +kernel) (by decide +kernel)
theorem q_se_X6_fault : Cond.selects RX6 yX6_fault yX6_fault ∈ AW := AW_at 320 (by decide +kernel) (by decide +kernel)
theorem q_co_X6_fault : Cond.code yX6_fault cX6_fault 1 (some .int) ∈ AW := AW_at 321 (by decide +kernel) (by decide +kernel)
theorem q_ml_X6_75 : Cond.methodLink RX6 75 yX2_readInto ∈ AW := AW_at 322 (by decide +kernel) (by decide +kernel)
theorem q_im_X2_readInto : Cond.instanceMethod yX2_readInto ∈ AW := AW_at 323 (by decide +kernel) (by decide +kernel)
theorem q_se_X2_readInto : Cond.selects RX2 yX2_readInto yX2_readInto ∈ AW := AW_at 324 (by decide +kernel) (by decide +kernel)
theorem q_co_X2_readInto : Cond.code yX2_readInto cX2_readInto 8 (some .int) ∈ AW := AW_at 325 (by decide +kernel) (by decide +kernel)
theorem q_ml_X2_31 : Cond.methodLink RX2 31 yX1_put ∈ AW := AW_at 326 (by decide +kernel) (by decide +kernel)
theorem q_im_X1_put : Cond.instanceMethod yX1_put ∈ AW := AW_at 327 (by decide +kernel) (by decide +kernel)
theorem q_se_X1_put : Cond.selects RX1 yX1_put yX1_put ∈ AW := AW_at 328 (by decide +kernel) (by decide +kernel)
theorem q_co_X1_put : Cond.code yX1_put cX1_put 4 none ∈ AW := AW_at 329 (by decide +kernel) (by decide +kernel)
theorem q_ml_X1_25 : Cond.methodLink RX1 25 yX1_has ∈ AW := AW_at 330 (by decide +kernel) (by decide +kernel)
theorem q_im_X1_has : Cond.instanceMethod yX1_has ∈ AW := AW_at 331 (by decide +kernel) (by decide +kernel)
theorem q_se_X1_has : Cond.selects RX1 yX1_has yX1_has ∈ AW := AW_at 332 (by decide +kernel) (by decide +kernel)
theorem q_co_X1_has : Cond.code yX1_has cX1_has 2 (some .boolean) ∈ AW := AW_at 333 (by decide +kernel) (by decide +kernel)
theorem q_ml_X2_35 : Cond.methodLink RX2 35 Lib.Math.max.name ∈ AW := AW_at 334 (by decide +kernel) (by decide +kernel)
theorem q_st_mmax : Cond.static Lib.Math.max.name ∈ AW := AW_at 335 (by decide +kernel) (by decide +kernel)
theorem q_co_mmax : Cond.code Lib.Math.max.name Lib.Math.max.code 2 (some .int) ∈ AW := AW_at 336 (by decide +kernel) (by decide +kernel)
theorem q_ml_X2_43 : Cond.methodLink RX2 43 yJ0_indexOf_0f7a4 ∈ AW := AW_at 338 (by decide +kernel) (by decide +kernel)
theorem q_im_J0_indexOf_0f7a4 : Cond.instanceMethod yJ0_indexOf_0f7a4 ∈ AW := AW_at 339 (by decide +kernel) (by decide +kernel)
theorem q_se_J0_indexOf_0f7a4 : Cond.selects RJ0 yJ0_indexOf_0f7a4 yJ0_indexOf_0f7a4 ∈ AW := AW_at 340 (by decide +kernel) (by decide +kernel)
theorem q_co_J0_indexOf_0f7a4 : Cond.code yJ0_indexOf_0f7a4 cJ0_indexOf_0f7a4 2 (some .int) ∈ AW := AW_at 341 (by decide +kernel) (by decide +kernel)
theorem q_ml_J0_633 : Cond.methodLink RJ0 633 yJ0_indexOf_7cf53 ∈ AW := AW_at 342 (by decide +kernel) (by decide +kernel)
theorem q_im_J0_indexOf_7cf53 : Cond.instanceMethod yJ0_indexOf_7cf53 ∈ AW := AW_at 343 (by decide +kernel) (by decide +kernel)
theorem q_se_J0_indexOf_7cf53 : Cond.selects RJ0 yJ0_indexOf_7cf53 yJ0_indexOf_7cf53 ∈ AW := AW_at 344 (by decide +kernel) (by decide +kernel)
theorem q_co_J0_indexOf_7cf53 : Cond.code yJ0_indexOf_7cf53 cJ0_indexOf_7cf53 3 (some .int) ∈ AW := AW_at 345 (by decide +kernel) (by decide +kernel)
theorem q_ml_J0_492 : Cond.methodLink RJ0 492 yJ0_isLatin1_aae02 ∈ AW := AW_at 346 (by decide +kernel) (by decide +kernel)
theorem q_im_J0_isLatin1_aae02 : Cond.instanceMethod yJ0_isLatin1_aae02 ∈ AW := AW_at 347 (by decide +kernel) (by decide +kernel)
theorem q_se_J0_isLatin1_aae02 : Cond.selects RJ0 yJ0_isLatin1_aae02 yJ0_isLatin1_aae02 ∈ AW := AW_at 348 (by decide +kernel) (by decide +kernel)
theorem q_co_J0_isLatin1_aae02 : Cond.code yJ0_isLatin1_aae02 cJ0_isLatin1_aae02 1 (some .boolean) ∈ AW := AW_at 349 (by decide +kernel) (by decide +kernel)
theorem q_fl_J0_38 : Cond.fieldLink RJ0 38 "java/lang/String" "COMPACT_STRINGS" "Z" ∈ AW := AW_at 350 (by decide +kernel) (by decide +kernel)
theorem q_ml_J0_505 : Cond.methodLink RJ0 505 yJ0_length_8abf5 ∈ AW := AW_at 352 (by decide +kernel) (by decide +kernel)
theorem q_im_J0_length_8abf5 : Cond.instanceMethod yJ0_length_8abf5 ∈ AW := AW_at 353 (by decide +kernel) (by decide +kernel)
theorem q_se_J0_length_8abf5 : Cond.selects RJ0 yJ0_length_8abf5 yJ0_length_8abf5 ∈ AW := AW_at 354 (by decide +kernel) (by decide +kernel)
theorem q_co_J0_length_8abf5 : Cond.code yJ0_length_8abf5 cJ0_length_8abf5 1 (some .int) ∈ AW := AW_at 355 (by decide +kernel) (by decide +kernel)
theorem q_ml_J0_335 : Cond.methodLink RJ0 335 yJ0_coder_7d493 ∈ AW := AW_at 356 (by decide +kernel) (by decide +kernel)
theorem q_im_J0_coder_7d493 : Cond.instanceMethod yJ0_coder_7d493 ∈ AW := AW_at 357 (by decide +kernel) (by decide +kernel)
theorem q_se_J0_coder_7d493 : Cond.selects RJ0 yJ0_coder_7d493 yJ0_coder_7d493 ∈ AW := AW_at 358 (by decide +kernel) (by decide +kernel)
theorem q_co_J0_coder_7d493 : Cond.code yJ0_coder_7d493 cJ0_coder_7d493 1 (some .byte) ∈ AW := AW_at 359 (by decide +kernel) (by decide +kernel)
theorem q_ml_J0_637 : Cond.methodLink RJ0 637 yJ1_indexOf_4cfef ∈ AW := AW_at 360 (by decide +kernel) (by decide +kernel)
theorem q_st_J1_indexOf_4cfef : Cond.static yJ1_indexOf_4cfef ∈ AW := AW_at 361 (by decide +kernel) (by decide +kernel)
theorem q_co_J1_indexOf_4cfef : Cond.code yJ1_indexOf_4cfef cJ1_indexOf_4cfef 4 (some .int) ∈ AW := AW_at 362 (by decide +kernel) (by decide +kernel)
theorem q_ml_J1_88 : Cond.methodLink RJ1 88 yJ1_canEncode_9a6ad ∈ AW := AW_at 363 (by decide +kernel) (by decide +kernel)
theorem q_st_J1_canEncode_9a6ad : Cond.static yJ1_canEncode_9a6ad ∈ AW := AW_at 364 (by decide +kernel) (by decide +kernel)
theorem q_co_J1_canEncode_9a6ad : Cond.code yJ1_canEncode_9a6ad cJ1_canEncode_9a6ad 1 (some .boolean) ∈ AW := AW_at 365 (by decide +kernel) (by decide +kernel)
theorem q_ml_J1_92 : Cond.methodLink RJ1 92 Lib.Math.max.name ∈ AW := AW_at 366 (by decide +kernel) (by decide +kernel)
theorem q_ml_J1_38 : Cond.methodLink RJ1 38 Lib.Math.min.name ∈ AW := AW_at 367 (by decide +kernel) (by decide +kernel)
theorem q_st_mmin : Cond.static Lib.Math.min.name ∈ AW := AW_at 368 (by decide +kernel) (by decide +kernel)
theorem q_co_mmin : Cond.code Lib.Math.min.name Lib.Math.min.code 2 (some .int) ∈ AW := AW_at 369 (by decide +kernel) (by decide +kernel)
theorem q_ml_J1_95 : Cond.methodLink RJ1 95 yJ1_indexOfChar_4cfef ∈ AW := AW_at 370 (by decide +kernel) (by decide +kernel)
theorem q_st_J1_indexOfChar_4cfef : Cond.static yJ1_indexOfChar_4cfef ∈ AW := AW_at 371 (by decide +kernel) (by decide +kernel)
theorem q_co_J1_indexOfChar_4cfef : Cond.code yJ1_indexOfChar_4cfef cJ1_indexOfChar_4cfef 6 (some .int) ∈ AW := AW_at 372 (by decide +kernel) (by decide +kernel)
theorem q_ct__java_lang_StringUTF16__227 : Cond.constant "java/lang/StringUTF16" 227 65536 ∈ AW := AW_at 378 (by decide +kernel) (by decide +kernel)
theorem q_fl_J0_1053 : Cond.fieldLink RJ0 1053 "jdk/internal/util/Preconditions" "SIOOBE_FORMATTER" "Ljava/util/function/BiFunction;" ∈ AW := AW_at 391 (by decide +kernel) (by decide +kernel)
theorem q_ct__java_lang_Character__110 : Cond.constant "java/lang/Character" 110 55232 ∈ AW := AW_at 417 (by decide +kernel) (by decide +kernel)
theorem q_ct__java_lang_Character__76 : Cond.constant "java/lang/Character" 76 56320 ∈ AW := AW_at 421 (by decide +kernel) (by decide +kernel)
theorem q_st_X6_isKind : Cond.static yX6_isKind ∈ AW := AW_at 423 (by decide +kernel) (by decide +kernel)
theorem q_co_X6_isKind : Cond.code yX6_isKind cX6_isKind 1 (some .boolean) ∈ AW := AW_at 424 (by decide +kernel) (by decide +kernel)
theorem q_ml_X2_53 : Cond.methodLink RX2 53 yX1_grow ∈ AW := AW_at 425 (by decide +kernel) (by decide +kernel)
theorem q_im_X1_grow : Cond.instanceMethod yX1_grow ∈ AW := AW_at 426 (by decide +kernel) (by decide +kernel)
theorem q_se_X1_grow : Cond.selects RX1 yX1_grow yX1_grow ∈ AW := AW_at 427 (by decide +kernel) (by decide +kernel)
theorem q_co_X1_grow : Cond.code yX1_grow cX1_grow 2 (some .boolean) ∈ AW := AW_at 428 (by decide +kernel) (by decide +kernel)
theorem q_st_X6_endsOf : Cond.static yX6_endsOf ∈ AW := AW_at 430 (by decide +kernel) (by decide +kernel)
theorem q_co_X6_endsOf : Cond.code yX6_endsOf cX6_endsOf 1 (some .int) ∈ AW := AW_at 431 (by decide +kernel) (by decide +kernel)
theorem q_ac_byte : Cond.arrayClass .byte ∈ AW := AW_at 432 (by decide +kernel) (by decide +kernel)
theorem q_ml_L_27 : Cond.methodLink RL 27 yX6_graph ∈ AW := AW_at 433 (by decide +kernel) (by decide +kernel)
theorem q_im_X6_graph : Cond.instanceMethod yX6_graph ∈ AW := AW_at 434 (by decide +kernel) (by decide +kernel)
theorem q_se_X6_graph : Cond.selects RX6 yX6_graph yX6_graph ∈ AW := AW_at 435 (by decide +kernel) (by decide +kernel)
theorem q_co_X6_graph : Cond.code yX6_graph cX6_graph 1 (some .int) ∈ AW := AW_at 436 (by decide +kernel) (by decide +kernel)
theorem q_ml_X6_97 : Cond.methodLink RX6 97 yX1_copyFrom ∈ AW := AW_at 437 (by decide +kernel) (by decide +kernel)
theorem q_im_X1_copyFrom : Cond.instanceMethod yX1_copyFrom ∈ AW := AW_at 438 (by decide +kernel) (by decide +kernel)
theorem q_se_X1_copyFrom : Cond.selects RX1 yX1_copyFrom yX1_copyFrom ∈ AW := AW_at 439 (by decide +kernel) (by decide +kernel)
theorem q_co_X1_copyFrom : Cond.code yX1_copyFrom cX1_copyFrom 2 none ∈ AW := AW_at 440 (by decide +kernel) (by decide +kernel)
theorem q_ml_X1_29 : Cond.methodLink RX1 29 arraycopyName ∈ AW := AW_at 441 (by decide +kernel) (by decide +kernel)
theorem q_st_acopy : Cond.static arraycopyName ∈ AW := AW_at 442 (by decide +kernel) (by decide +kernel)
theorem q_na_acopy : Cond.native arraycopyName ∈ AW := AW_at 443 (by decide +kernel) (by decide +kernel)
theorem q_ml_X6_100 : Cond.methodLink RX6 100 yX6_lookAnew ∈ AW := AW_at 444 (by decide +kernel) (by decide +kernel)
theorem q_im_X6_lookAnew : Cond.instanceMethod yX6_lookAnew ∈ AW := AW_at 446 (by decide +kernel) (by decide +kernel)
theorem q_co_X6_lookAnew : Cond.code yX6_lookAnew cX6_lookAnew 1 none ∈ AW := AW_at 447 (by decide +kernel) (by decide +kernel)
theorem q_ml_X6_199 : Cond.methodLink RX6 199 yX0_look ∈ AW := AW_at 448 (by decide +kernel) (by decide +kernel)
theorem q_im_X0_look : Cond.instanceMethod yX0_look ∈ AW := AW_at 449 (by decide +kernel) (by decide +kernel)
theorem q_se_X0_look : Cond.selects RX0 yX0_look yX0_look ∈ AW := AW_at 450 (by decide +kernel) (by decide +kernel)
theorem q_co_X0_look : Cond.code yX0_look cX0_look 3 none ∈ AW := AW_at 451 (by decide +kernel) (by decide +kernel)
theorem q_ml_X0_31 : Cond.methodLink RX0 31 yX0_findTargets ∈ AW := AW_at 452 (by decide +kernel) (by decide +kernel)
theorem q_im_X0_findTargets : Cond.instanceMethod yX0_findTargets ∈ AW := AW_at 454 (by decide +kernel) (by decide +kernel)
theorem q_co_X0_findTargets : Cond.code yX0_findTargets cX0_findTargets 6 none ∈ AW := AW_at 455 (by decide +kernel) (by decide +kernel)
theorem q_ml_X0_83 : Cond.methodLink RX0 83 yX1_target ∈ AW := AW_at 456 (by decide +kernel) (by decide +kernel)
theorem q_im_X1_target : Cond.instanceMethod yX1_target ∈ AW := AW_at 457 (by decide +kernel) (by decide +kernel)
theorem q_se_X1_target : Cond.selects RX1 yX1_target yX1_target ∈ AW := AW_at 458 (by decide +kernel) (by decide +kernel)
theorem q_co_X1_target : Cond.code yX1_target cX1_target 3 (some .int) ∈ AW := AW_at 459 (by decide +kernel) (by decide +kernel)
theorem q_ml_X0_61 : Cond.methodLink RX0 61 yX1_has ∈ AW := AW_at 460 (by decide +kernel) (by decide +kernel)
theorem q_ml_X0_42 : Cond.methodLink RX0 42 yX0_doNode ∈ AW := AW_at 462 (by decide +kernel) (by decide +kernel)
theorem q_im_X0_doNode : Cond.instanceMethod yX0_doNode ∈ AW := AW_at 464 (by decide +kernel) (by decide +kernel)
theorem q_co_X0_doNode : Cond.code yX0_doNode cX0_doNode 5 none ∈ AW := AW_at 465 (by decide +kernel) (by decide +kernel)
theorem q_ml_X0_46 : Cond.methodLink RX0 46 yJ7_fill_53178 ∈ AW := AW_at 466 (by decide +kernel) (by decide +kernel)
theorem q_st_J7_fill_53178 : Cond.static yJ7_fill_53178 ∈ AW := AW_at 467 (by decide +kernel) (by decide +kernel)
theorem q_co_J7_fill_53178 : Cond.code yJ7_fill_53178 cJ7_fill_53178 4 none ∈ AW := AW_at 468 (by decide +kernel) (by decide +kernel)
theorem q_ml_X0_52 : Cond.methodLink RX0 52 yX0_findRulers ∈ AW := AW_at 469 (by decide +kernel) (by decide +kernel)
theorem q_im_X0_findRulers : Cond.instanceMethod yX0_findRulers ∈ AW := AW_at 471 (by decide +kernel) (by decide +kernel)
theorem q_co_X0_findRulers : Cond.code yX0_findRulers cX0_findRulers 4 none ∈ AW := AW_at 472 (by decide +kernel) (by decide +kernel)
theorem q_ml_X0_94 : Cond.methodLink RX0 94 yX0_strikeBehind ∈ AW := AW_at 473 (by decide +kernel) (by decide +kernel)
theorem q_im_X0_strikeBehind : Cond.instanceMethod yX0_strikeBehind ∈ AW := AW_at 475 (by decide +kernel) (by decide +kernel)
theorem q_co_X0_strikeBehind : Cond.code yX0_strikeBehind cX0_strikeBehind 6 (some .boolean) ∈ AW := AW_at 476 (by decide +kernel) (by decide +kernel)
theorem q_ml_X0_55 : Cond.methodLink RX0 55 yX0_weighEdges ∈ AW := AW_at 477 (by decide +kernel) (by decide +kernel)
theorem q_im_X0_weighEdges : Cond.instanceMethod yX0_weighEdges ∈ AW := AW_at 479 (by decide +kernel) (by decide +kernel)
theorem q_co_X0_weighEdges : Cond.code yX0_weighEdges cX0_weighEdges 6 none ∈ AW := AW_at 480 (by decide +kernel) (by decide +kernel)
theorem q_ml_X6_245 : Cond.methodLink RX6 245 yX4_write ∈ AW := AW_at 481 (by decide +kernel) (by decide +kernel)
theorem q_im_X4_write : Cond.instanceMethod yX4_write ∈ AW := AW_at 482 (by decide +kernel) (by decide +kernel)
theorem q_se_X4_write : Cond.selects RX4 yX4_write yX4_write ∈ AW := AW_at 483 (by decide +kernel) (by decide +kernel)
theorem q_co_X4_write : Cond.code yX4_write cX4_write 1 none ∈ AW := AW_at 484 (by decide +kernel) (by decide +kernel)
theorem q_ml_X4_42 : Cond.methodLink RX4 42 yX0_folds ∈ AW := AW_at 485 (by decide +kernel) (by decide +kernel)
theorem q_im_X0_folds : Cond.instanceMethod yX0_folds ∈ AW := AW_at 486 (by decide +kernel) (by decide +kernel)
theorem q_se_X0_folds : Cond.selects RX0 yX0_folds yX0_folds ∈ AW := AW_at 487 (by decide +kernel) (by decide +kernel)
theorem q_co_X0_folds : Cond.code yX0_folds cX0_folds 1 (some .boolean) ∈ AW := AW_at 488 (by decide +kernel) (by decide +kernel)
theorem q_ml_X4_48 : Cond.methodLink RX4 48 yX4_putTree ∈ AW := AW_at 489 (by decide +kernel) (by decide +kernel)
theorem q_im_X4_putTree : Cond.instanceMethod yX4_putTree ∈ AW := AW_at 491 (by decide +kernel) (by decide +kernel)
theorem q_co_X4_putTree : Cond.code yX4_putTree cX4_putTree 4 none ∈ AW := AW_at 492 (by decide +kernel) (by decide +kernel)
theorem q_ml_X4_52 : Cond.methodLink RX4 52 yX1_has ∈ AW := AW_at 493 (by decide +kernel) (by decide +kernel)
theorem q_ml_X4_58 : Cond.methodLink RX4 58 yX0_isHead ∈ AW := AW_at 494 (by decide +kernel) (by decide +kernel)
theorem q_im_X0_isHead : Cond.instanceMethod yX0_isHead ∈ AW := AW_at 495 (by decide +kernel) (by decide +kernel)
theorem q_se_X0_isHead : Cond.selects RX0 yX0_isHead yX0_isHead ∈ AW := AW_at 496 (by decide +kernel) (by decide +kernel)
theorem q_co_X0_isHead : Cond.code yX0_isHead cX0_isHead 2 (some .boolean) ∈ AW := AW_at 497 (by decide +kernel) (by decide +kernel)
theorem q_ml_X4_61 : Cond.methodLink RX4 61 yX4_putOpening ∈ AW := AW_at 498 (by decide +kernel) (by decide +kernel)
theorem q_im_X4_putOpening : Cond.instanceMethod yX4_putOpening ∈ AW := AW_at 500 (by decide +kernel) (by decide +kernel)
theorem q_co_X4_putOpening : Cond.code yX4_putOpening cX4_putOpening 2 none ∈ AW := AW_at 501 (by decide +kernel) (by decide +kernel)
theorem q_ml_X4_80 : Cond.methodLink RX4 80 yX4_put ∈ AW := AW_at 502 (by decide +kernel) (by decide +kernel)
theorem q_im_X4_put : Cond.instanceMethod yX4_put ∈ AW := AW_at 504 (by decide +kernel) (by decide +kernel)
theorem q_co_X4_put : Cond.code yX4_put cX4_put 2 none ∈ AW := AW_at 505 (by decide +kernel) (by decide +kernel)
theorem q_ml_X4_112 : Cond.methodLink RX4 112 Lib.Math.max.name ∈ AW := AW_at 506 (by decide +kernel) (by decide +kernel)
theorem q_ml_X4_65 : Cond.methodLink RX4 65 yX4_putWithin ∈ AW := AW_at 507 (by decide +kernel) (by decide +kernel)
theorem q_im_X4_putWithin : Cond.instanceMethod yX4_putWithin ∈ AW := AW_at 509 (by decide +kernel) (by decide +kernel)
theorem q_co_X4_putWithin : Cond.code yX4_putWithin cX4_putWithin 5 none ∈ AW := AW_at 510 (by decide +kernel) (by decide +kernel)
theorem q_ml_X4_72 : Cond.methodLink RX4 72 yX0_nodeAt ∈ AW := AW_at 511 (by decide +kernel) (by decide +kernel)
theorem q_im_X0_nodeAt : Cond.instanceMethod yX0_nodeAt ∈ AW := AW_at 512 (by decide +kernel) (by decide +kernel)
theorem q_se_X0_nodeAt : Cond.selects RX0 yX0_nodeAt yX0_nodeAt ∈ AW := AW_at 513 (by decide +kernel) (by decide +kernel)
theorem q_co_X0_nodeAt : Cond.code yX0_nodeAt cX0_nodeAt 2 (some .int) ∈ AW := AW_at 514 (by decide +kernel) (by decide +kernel)
theorem q_ml_X4_76 : Cond.methodLink RX4 76 yX4_isBlockIn ∈ AW := AW_at 515 (by decide +kernel) (by decide +kernel)
theorem q_im_X4_isBlockIn : Cond.instanceMethod yX4_isBlockIn ∈ AW := AW_at 517 (by decide +kernel) (by decide +kernel)
theorem q_co_X4_isBlockIn : Cond.code yX4_isBlockIn cX4_isBlockIn 3 (some .boolean) ∈ AW := AW_at 518 (by decide +kernel) (by decide +kernel)
theorem q_ml_X4_93 : Cond.methodLink RX4 93 yX0_isMerge ∈ AW := AW_at 519 (by decide +kernel) (by decide +kernel)
theorem q_im_X0_isMerge : Cond.instanceMethod yX0_isMerge ∈ AW := AW_at 520 (by decide +kernel) (by decide +kernel)
theorem q_se_X0_isMerge : Cond.selects RX0 yX0_isMerge yX0_isMerge ∈ AW := AW_at 521 (by decide +kernel) (by decide +kernel)
theorem q_co_X0_isMerge : Cond.code yX0_isMerge cX0_isMerge 2 (some .boolean) ∈ AW := AW_at 522 (by decide +kernel) (by decide +kernel)
theorem q_ml_X4_96 : Cond.methodLink RX4 96 yX0_lordOf ∈ AW := AW_at 523 (by decide +kernel) (by decide +kernel)
theorem q_im_X0_lordOf : Cond.instanceMethod yX0_lordOf ∈ AW := AW_at 524 (by decide +kernel) (by decide +kernel)
theorem q_se_X0_lordOf : Cond.selects RX0 yX0_lordOf yX0_lordOf ∈ AW := AW_at 525 (by decide +kernel) (by decide +kernel)
theorem q_co_X0_lordOf : Cond.code yX0_lordOf cX0_lordOf 4 (some .int) ∈ AW := AW_at 526 (by decide +kernel) (by decide +kernel)
theorem q_ml_X4_89 : Cond.methodLink RX4 89 yX4_putBranch ∈ AW := AW_at 528 (by decide +kernel) (by decide +kernel)
theorem q_im_X4_putBranch : Cond.instanceMethod yX4_putBranch ∈ AW := AW_at 530 (by decide +kernel) (by decide +kernel)
theorem q_co_X4_putBranch : Cond.code yX4_putBranch cX4_putBranch 5 none ∈ AW := AW_at 531 (by decide +kernel) (by decide +kernel)
theorem q_ml_X4_99 : Cond.methodLink RX4 99 yX1_target ∈ AW := AW_at 532 (by decide +kernel) (by decide +kernel)
theorem q_ml_X4_103 : Cond.methodLink RX4 103 yX0_stateOf ∈ AW := AW_at 533 (by decide +kernel) (by decide +kernel)
theorem q_im_X0_stateOf : Cond.instanceMethod yX0_stateOf ∈ AW := AW_at 534 (by decide +kernel) (by decide +kernel)
theorem q_se_X0_stateOf : Cond.selects RX0 yX0_stateOf yX0_stateOf ∈ AW := AW_at 535 (by decide +kernel) (by decide +kernel)
theorem q_co_X0_stateOf : Cond.code yX0_stateOf cX0_stateOf 3 (some .int) ∈ AW := AW_at 536 (by decide +kernel) (by decide +kernel)
theorem q_st_X6_isEnd : Cond.static yX6_isEnd ∈ AW := AW_at 538 (by decide +kernel) (by decide +kernel)
theorem q_co_X6_isEnd : Cond.code yX6_isEnd cX6_isEnd 1 (some .boolean) ∈ AW := AW_at 539 (by decide +kernel) (by decide +kernel)
theorem q_ml_X4_106 : Cond.methodLink RX4 106 yX4_depthOf ∈ AW := AW_at 540 (by decide +kernel) (by decide +kernel)
theorem q_im_X4_depthOf : Cond.instanceMethod yX4_depthOf ∈ AW := AW_at 542 (by decide +kernel) (by decide +kernel)
theorem q_co_X4_depthOf : Cond.code yX4_depthOf cX4_depthOf 3 (some .int) ∈ AW := AW_at 543 (by decide +kernel) (by decide +kernel)
theorem q_ml_X4_109 : Cond.methodLink RX4 109 yX4_putWayOut ∈ AW := AW_at 544 (by decide +kernel) (by decide +kernel)
theorem q_im_X4_putWayOut : Cond.instanceMethod yX4_putWayOut ∈ AW := AW_at 546 (by decide +kernel) (by decide +kernel)
theorem q_co_X4_putWayOut : Cond.code yX4_putWayOut cX4_putWayOut 3 none ∈ AW := AW_at 547 (by decide +kernel) (by decide +kernel)
theorem q_ml_X4_68 : Cond.methodLink RX4 68 yX4_putClosing ∈ AW := AW_at 548 (by decide +kernel) (by decide +kernel)
theorem q_im_X4_putClosing : Cond.instanceMethod yX4_putClosing ∈ AW := AW_at 550 (by decide +kernel) (by decide +kernel)
theorem q_co_X4_putClosing : Cond.code yX4_putClosing cX4_putClosing 2 none ∈ AW := AW_at 551 (by decide +kernel) (by decide +kernel)
theorem q_ml_L_31 : Cond.methodLink RL 31 yX6_node ∈ AW := AW_at 552 (by decide +kernel) (by decide +kernel)
theorem q_im_X6_node : Cond.instanceMethod yX6_node ∈ AW := AW_at 553 (by decide +kernel) (by decide +kernel)
theorem q_se_X6_node : Cond.selects RX6 yX6_node yX6_node ∈ AW := AW_at 554 (by decide +kernel) (by decide +kernel)
theorem q_co_X6_node : Cond.code yX6_node cX6_node 3 (some .int) ∈ AW := AW_at 555 (by decide +kernel) (by decide +kernel)
theorem q_ml_X6_103 : Cond.methodLink RX6 103 yX1_has ∈ AW := AW_at 556 (by decide +kernel) (by decide +kernel)
theorem q_ml_X6_116 : Cond.methodLink RX6 116 yX0_placeOf ∈ AW := AW_at 557 (by decide +kernel) (by decide +kernel)
theorem q_im_X0_placeOf : Cond.instanceMethod yX0_placeOf ∈ AW := AW_at 558 (by decide +kernel) (by decide +kernel)
theorem q_se_X0_placeOf : Cond.selects RX0 yX0_placeOf yX0_placeOf ∈ AW := AW_at 559 (by decide +kernel) (by decide +kernel)
theorem q_co_X0_placeOf : Cond.code yX0_placeOf cX0_placeOf 2 (some .int) ∈ AW := AW_at 560 (by decide +kernel) (by decide +kernel)
theorem q_ml_X6_120 : Cond.methodLink RX6 120 yX0_lordOf ∈ AW := AW_at 561 (by decide +kernel) (by decide +kernel)
theorem q_ml_X6_123 : Cond.methodLink RX6 123 yX0_isHead ∈ AW := AW_at 562 (by decide +kernel) (by decide +kernel)
theorem q_ml_X6_126 : Cond.methodLink RX6 126 yX0_isMerge ∈ AW := AW_at 563 (by decide +kernel) (by decide +kernel)
theorem q_ml_X6_129 : Cond.methodLink RX6 129 yX0_ruledBy ∈ AW := AW_at 564 (by decide +kernel) (by decide +kernel)
theorem q_im_X0_ruledBy : Cond.instanceMethod yX0_ruledBy ∈ AW := AW_at 565 (by decide +kernel) (by decide +kernel)
theorem q_se_X0_ruledBy : Cond.selects RX0 yX0_ruledBy yX0_ruledBy ∈ AW := AW_at 566 (by decide +kernel) (by decide +kernel)
theorem q_co_X0_ruledBy : Cond.code yX0_ruledBy cX0_ruledBy 4 (some .int) ∈ AW := AW_at 567 (by decide +kernel) (by decide +kernel)
theorem q_ml_X0_79 : Cond.methodLink RX0 79 yX0_rules ∈ AW := AW_at 568 (by decide +kernel) (by decide +kernel)
theorem q_im_X0_rules : Cond.instanceMethod yX0_rules ∈ AW := AW_at 569 (by decide +kernel) (by decide +kernel)
theorem q_se_X0_rules : Cond.selects RX0 yX0_rules yX0_rules ∈ AW := AW_at 570 (by decide +kernel) (by decide +kernel)
theorem q_co_X0_rules : Cond.code yX0_rules cX0_rules 3 (some .boolean) ∈ AW := AW_at 571 (by decide +kernel) (by decide +kernel)
theorem q_ml_X6_132 : Cond.methodLink RX6 132 yX3_sortsOf ∈ AW := AW_at 572 (by decide +kernel) (by decide +kernel)
theorem q_im_X3_sortsOf : Cond.instanceMethod yX3_sortsOf ∈ AW := AW_at 573 (by decide +kernel) (by decide +kernel)
theorem q_se_X3_sortsOf : Cond.selects RX3 yX3_sortsOf yX3_sortsOf ∈ AW := AW_at 574 (by decide +kernel) (by decide +kernel)
theorem q_co_X3_sortsOf : Cond.code yX3_sortsOf cX3_sortsOf 4 (some .int) ∈ AW := AW_at 575 (by decide +kernel) (by decide +kernel)
theorem q_ml_X3_31 : Cond.methodLink RX3 31 yX3_sortsThatDo ∈ AW := AW_at 576 (by decide +kernel) (by decide +kernel)
theorem q_st_X3_sortsThatDo : Cond.static yX3_sortsThatDo ∈ AW := AW_at 577 (by decide +kernel) (by decide +kernel)
theorem q_co_X3_sortsThatDo : Cond.code yX3_sortsThatDo cX3_sortsThatDo 4 (some .int) ∈ AW := AW_at 578 (by decide +kernel) (by decide +kernel)
theorem q_st_X6_doesAt : Cond.static yX6_doesAt ∈ AW := AW_at 580 (by decide +kernel) (by decide +kernel)
theorem q_co_X6_doesAt : Cond.code yX6_doesAt cX6_doesAt 3 (some .int) ∈ AW := AW_at 581 (by decide +kernel) (by decide +kernel)
theorem q_ml_X6_135 : Cond.methodLink RX6 135 yX3_askFor ∈ AW := AW_at 582 (by decide +kernel) (by decide +kernel)
theorem q_im_X3_askFor : Cond.instanceMethod yX3_askFor ∈ AW := AW_at 583 (by decide +kernel) (by decide +kernel)
theorem q_se_X3_askFor : Cond.selects RX3 yX3_askFor yX3_askFor ∈ AW := AW_at 584 (by decide +kernel) (by decide +kernel)
theorem q_co_X3_askFor : Cond.code yX3_askFor cX3_askFor 8 (some .int) ∈ AW := AW_at 585 (by decide +kernel) (by decide +kernel)
theorem q_ml_X3_35 : Cond.methodLink RX3 35 yX3_sortsOf ∈ AW := AW_at 586 (by decide +kernel) (by decide +kernel)
theorem q_ml_X3_39 : Cond.methodLink RX3 39 yJ6_bitCount_0f7a4 ∈ AW := AW_at 587 (by decide +kernel) (by decide +kernel)
theorem q_st_J6_bitCount_0f7a4 : Cond.static yJ6_bitCount_0f7a4 ∈ AW := AW_at 588 (by decide +kernel) (by decide +kernel)
theorem q_co_J6_bitCount_0f7a4 : Cond.code yJ6_bitCount_0f7a4 cJ6_bitCount_0f7a4 1 (some .int) ∈ AW := AW_at 589 (by decide +kernel) (by decide +kernel)
theorem q_ct_J6_265 : Cond.constant RJ6 265 1431655765 ∈ AW := AW_at 590 (by decide +kernel) (by decide +kernel)
theorem q_ct_J6_266 : Cond.constant RJ6 266 858993459 ∈ AW := AW_at 591 (by decide +kernel) (by decide +kernel)
theorem q_ct_J6_267 : Cond.constant RJ6 267 252645135 ∈ AW := AW_at 592 (by decide +kernel) (by decide +kernel)
theorem q_ml_X3_44 : Cond.methodLink RX3 44 Lib.Math.max.name ∈ AW := AW_at 593 (by decide +kernel) (by decide +kernel)
theorem q_ml_L_36 : Cond.methodLink RL 36 yX6_as ∈ AW := AW_at 594 (by decide +kernel) (by decide +kernel)
theorem q_im_X6_as : Cond.instanceMethod yX6_as ∈ AW := AW_at 595 (by decide +kernel) (by decide +kernel)
theorem q_se_X6_as : Cond.selects RX6 yX6_as yX6_as ∈ AW := AW_at 596 (by decide +kernel) (by decide +kernel)
theorem q_co_X6_as : Cond.code yX6_as cX6_as 5 (some .int) ∈ AW := AW_at 597 (by decide +kernel) (by decide +kernel)
theorem q_ml_X6_138 : Cond.methodLink RX6 138 yX6_isKind ∈ AW := AW_at 598 (by decide +kernel) (by decide +kernel)
theorem q_ml_L_40 : Cond.methodLink RL 40 yX6_dominates ∈ AW := AW_at 599 (by decide +kernel) (by decide +kernel)
theorem q_im_X6_dominates : Cond.instanceMethod yX6_dominates ∈ AW := AW_at 600 (by decide +kernel) (by decide +kernel)
theorem q_se_X6_dominates : Cond.selects RX6 yX6_dominates yX6_dominates ∈ AW := AW_at 601 (by decide +kernel) (by decide +kernel)
theorem q_co_X6_dominates : Cond.code yX6_dominates cX6_dominates 3 (some .int) ∈ AW := AW_at 602 (by decide +kernel) (by decide +kernel)
theorem q_ml_X6_141 : Cond.methodLink RX6 141 yX0_rules ∈ AW := AW_at 603 (by decide +kernel) (by decide +kernel)
theorem q_ml_L_44 : Cond.methodLink RL 44 yX6_edge ∈ AW := AW_at 604 (by decide +kernel) (by decide +kernel)
theorem q_im_X6_edge : Cond.instanceMethod yX6_edge ∈ AW := AW_at 605 (by decide +kernel) (by decide +kernel)
theorem q_se_X6_edge : Cond.selects RX6 yX6_edge yX6_edge ∈ AW := AW_at 606 (by decide +kernel) (by decide +kernel)
theorem q_co_X6_edge : Cond.code yX6_edge cX6_edge 3 (some .int) ∈ AW := AW_at 607 (by decide +kernel) (by decide +kernel)
theorem q_ml_X6_145 : Cond.methodLink RX6 145 yX6_isEnd ∈ AW := AW_at 608 (by decide +kernel) (by decide +kernel)
theorem q_ml_X6_148 : Cond.methodLink RX6 148 yX0_stateOf ∈ AW := AW_at 609 (by decide +kernel) (by decide +kernel)
theorem q_ml_L_48 : Cond.methodLink RL 48 yX6_aim ∈ AW := AW_at 610 (by decide +kernel) (by decide +kernel)
theorem q_im_X6_aim : Cond.instanceMethod yX6_aim ∈ AW := AW_at 611 (by decide +kernel) (by decide +kernel)
theorem q_se_X6_aim : Cond.selects RX6 yX6_aim yX6_aim ∈ AW := AW_at 612 (by decide +kernel) (by decide +kernel)
theorem q_co_X6_aim : Cond.code yX6_aim cX6_aim 5 (some .int) ∈ AW := AW_at 613 (by decide +kernel) (by decide +kernel)
theorem q_ml_X6_152 : Cond.methodLink RX6 152 yX1_target ∈ AW := AW_at 614 (by decide +kernel) (by decide +kernel)
theorem q_ml_X6_155 : Cond.methodLink RX6 155 yX1_put ∈ AW := AW_at 615 (by decide +kernel) (by decide +kernel)
theorem q_ml_L_53 : Cond.methodLink RL 53 yX6_be ∈ AW := AW_at 616 (by decide +kernel) (by decide +kernel)
theorem q_im_X6_be : Cond.instanceMethod yX6_be ∈ AW := AW_at 617 (by decide +kernel) (by decide +kernel)
theorem q_se_X6_be : Cond.selects RX6 yX6_be yX6_be ∈ AW := AW_at 618 (by decide +kernel) (by decide +kernel)
theorem q_co_X6_be : Cond.code yX6_be cX6_be 4 (some .int) ∈ AW := AW_at 619 (by decide +kernel) (by decide +kernel)
theorem q_ml_L_57 : Cond.methodLink RL 57 yX6_walk ∈ AW := AW_at 620 (by decide +kernel) (by decide +kernel)
theorem q_im_X6_walk : Cond.instanceMethod yX6_walk ∈ AW := AW_at 621 (by decide +kernel) (by decide +kernel)
theorem q_se_X6_walk : Cond.selects RX6 yX6_walk yX6_walk ∈ AW := AW_at 622 (by decide +kernel) (by decide +kernel)
theorem q_co_X6_walk : Cond.code yX6_walk cX6_walk 2 (some .int) ∈ AW := AW_at 623 (by decide +kernel) (by decide +kernel)
theorem q_ml_X6_159 : Cond.methodLink RX6 159 yX5_go ∈ AW := AW_at 624 (by decide +kernel) (by decide +kernel)
theorem q_im_X5_go : Cond.instanceMethod yX5_go ∈ AW := AW_at 625 (by decide +kernel) (by decide +kernel)
theorem q_se_X5_go : Cond.selects RX5 yX5_go yX5_go ∈ AW := AW_at 626 (by decide +kernel) (by decide +kernel)
theorem q_co_X5_go : Cond.code yX5_go cX5_go 6 none ∈ AW := AW_at 627 (by decide +kernel) (by decide +kernel)
theorem q_ml_X5_18 : Cond.methodLink RX5 18 yJ7_fill_53178 ∈ AW := AW_at 628 (by decide +kernel) (by decide +kernel)
theorem q_ml_X5_28 : Cond.methodLink RX5 28 yX1_has ∈ AW := AW_at 629 (by decide +kernel) (by decide +kernel)
theorem q_ml_X5_41 : Cond.methodLink RX5 41 yX1_target ∈ AW := AW_at 631 (by decide +kernel) (by decide +kernel)
theorem q_ml_L_61 : Cond.methodLink RL 61 yX6_visit ∈ AW := AW_at 632 (by decide +kernel) (by decide +kernel)
theorem q_im_X6_visit : Cond.instanceMethod yX6_visit ∈ AW := AW_at 633 (by decide +kernel) (by decide +kernel)
theorem q_se_X6_visit : Cond.selects RX6 yX6_visit yX6_visit ∈ AW := AW_at 634 (by decide +kernel) (by decide +kernel)
theorem q_co_X6_visit : Cond.code yX6_visit cX6_visit 2 (some .int) ∈ AW := AW_at 635 (by decide +kernel) (by decide +kernel)
theorem q_ml_L_65 : Cond.methodLink RL 65 yX6_sign ∈ AW := AW_at 636 (by decide +kernel) (by decide +kernel)
theorem q_im_X6_sign : Cond.instanceMethod yX6_sign ∈ AW := AW_at 637 (by decide +kernel) (by decide +kernel)
theorem q_se_X6_sign : Cond.selects RX6 yX6_sign yX6_sign ∈ AW := AW_at 638 (by decide +kernel) (by decide +kernel)
theorem q_co_X6_sign : Cond.code yX6_sign cX6_sign 2 (some .int) ∈ AW := AW_at 639 (by decide +kernel) (by decide +kernel)
theorem q_ml_L_69 : Cond.methodLink RL 69 yX6_fold ∈ AW := AW_at 640 (by decide +kernel) (by decide +kernel)
theorem q_im_X6_fold : Cond.instanceMethod yX6_fold ∈ AW := AW_at 641 (by decide +kernel) (by decide +kernel)
theorem q_se_X6_fold : Cond.selects RX6 yX6_fold yX6_fold ∈ AW := AW_at 642 (by decide +kernel) (by decide +kernel)
theorem q_co_X6_fold : Cond.code yX6_fold cX6_fold 2 (some .int) ∈ AW := AW_at 643 (by decide +kernel) (by decide +kernel)
theorem q_ml_X6_168 : Cond.methodLink RX6 168 yX0_folds ∈ AW := AW_at 644 (by decide +kernel) (by decide +kernel)
theorem q_ml_L_73 : Cond.methodLink RL 73 yX6_mend ∈ AW := AW_at 645 (by decide +kernel) (by decide +kernel)
theorem q_im_X6_mend : Cond.instanceMethod yX6_mend ∈ AW := AW_at 646 (by decide +kernel) (by decide +kernel)
theorem q_se_X6_mend : Cond.selects RX6 yX6_mend yX6_mend ∈ AW := AW_at 647 (by decide +kernel) (by decide +kernel)
theorem q_co_X6_mend : Cond.code yX6_mend cX6_mend 3 (some .int) ∈ AW := AW_at 648 (by decide +kernel) (by decide +kernel)
theorem q_ml_X6_184 : Cond.methodLink RX6 184 yX6_fewestLeftOut ∈ AW := AW_at 649 (by decide +kernel) (by decide +kernel)
theorem q_im_X6_fewestLeftOut : Cond.instanceMethod yX6_fewestLeftOut ∈ AW := AW_at 651 (by decide +kernel) (by decide +kernel)
theorem q_co_X6_fewestLeftOut : Cond.code yX6_fewestLeftOut cX6_fewestLeftOut 3 (some .int) ∈ AW := AW_at 652 (by decide +kernel) (by decide +kernel)
theorem q_ml_X6_248 : Cond.methodLink RX6 248 yX6_leastLeftOut ∈ AW := AW_at 653 (by decide +kernel) (by decide +kernel)
theorem q_im_X6_leastLeftOut : Cond.instanceMethod yX6_leastLeftOut ∈ AW := AW_at 655 (by decide +kernel) (by decide +kernel)
theorem q_co_X6_leastLeftOut : Cond.code yX6_leastLeftOut cX6_leastLeftOut 6 (some .int) ∈ AW := AW_at 656 (by decide +kernel) (by decide +kernel)
theorem q_ml_X6_188 : Cond.methodLink RX6 188 yJ6_bitCount_0f7a4 ∈ AW := AW_at 657 (by decide +kernel) (by decide +kernel)
theorem q_ml_L_77 : Cond.methodLink RL 77 yX6_see ∈ AW := AW_at 658 (by decide +kernel) (by decide +kernel)
theorem q_im_X6_see : Cond.instanceMethod yX6_see ∈ AW := AW_at 659 (by decide +kernel) (by decide +kernel)
theorem q_se_X6_see : Cond.selects RX6 yX6_see yX6_see ∈ AW := AW_at 660 (by decide +kernel) (by decide +kernel)
theorem q_co_X6_see : Cond.code yX6_see cX6_see 4 (some .int) ∈ AW := AW_at 661 (by decide +kernel) (by decide +kernel)
theorem q_ml_X6_193 : Cond.methodLink RX6 193 yX3_add ∈ AW := AW_at 662 (by decide +kernel) (by decide +kernel)
theorem q_im_X3_add : Cond.instanceMethod yX3_add ∈ AW := AW_at 663 (by decide +kernel) (by decide +kernel)
theorem q_se_X3_add : Cond.selects RX3 yX3_add yX3_add ∈ AW := AW_at 664 (by decide +kernel) (by decide +kernel)
theorem q_co_X3_add : Cond.code yX3_add cX3_add 4 (some .boolean) ∈ AW := AW_at 665 (by decide +kernel) (by decide +kernel)
theorem q_ml_L_81 : Cond.methodLink RL 81 yX6_forget ∈ AW := AW_at 666 (by decide +kernel) (by decide +kernel)
theorem q_im_X6_forget : Cond.instanceMethod yX6_forget ∈ AW := AW_at 667 (by decide +kernel) (by decide +kernel)
theorem q_se_X6_forget : Cond.selects RX6 yX6_forget yX6_forget ∈ AW := AW_at 668 (by decide +kernel) (by decide +kernel)
theorem q_co_X6_forget : Cond.code yX6_forget cX6_forget 2 (some .int) ∈ AW := AW_at 669 (by decide +kernel) (by decide +kernel)
theorem q_ml_L_85 : Cond.methodLink RL 85 yX6_drawn ∈ AW := AW_at 670 (by decide +kernel) (by decide +kernel)
theorem q_im_X6_drawn : Cond.instanceMethod yX6_drawn ∈ AW := AW_at 671 (by decide +kernel) (by decide +kernel)
theorem q_se_X6_drawn : Cond.selects RX6 yX6_drawn yX6_drawn ∈ AW := AW_at 672 (by decide +kernel) (by decide +kernel)
theorem q_co_X6_drawn : Cond.code yX6_drawn cX6_drawn 8 (some .int) ∈ AW := AW_at 673 (by decide +kernel) (by decide +kernel)
theorem q_ml_X6_196 : Cond.methodLink RX6 196 yX6_drawDraft ∈ AW := AW_at 674 (by decide +kernel) (by decide +kernel)
theorem q_im_X6_drawDraft : Cond.instanceMethod yX6_drawDraft ∈ AW := AW_at 676 (by decide +kernel) (by decide +kernel)
theorem q_co_X6_drawDraft : Cond.code yX6_drawDraft cX6_drawDraft 4 (some .int) ∈ AW := AW_at 677 (by decide +kernel) (by decide +kernel)
theorem q_ml_X6_252 : Cond.methodLink RX6 252 yX6_nextSeed ∈ AW := AW_at 678 (by decide +kernel) (by decide +kernel)
theorem q_st_X6_nextSeed : Cond.static yX6_nextSeed ∈ AW := AW_at 679 (by decide +kernel) (by decide +kernel)
theorem q_co_X6_nextSeed : Cond.code yX6_nextSeed cX6_nextSeed 1 (some .int) ∈ AW := AW_at 680 (by decide +kernel) (by decide +kernel)
theorem q_ct_X6_258 : Cond.constantLong RX6 258 1103515245 ∈ AW := AW_at 681 (by decide +kernel) (by decide +kernel)
theorem q_ct_X6_260 : Cond.constantLong RX6 260 12345 ∈ AW := AW_at 682 (by decide +kernel) (by decide +kernel)
theorem q_ct_X6_262 : Cond.constantLong RX6 262 2147483647 ∈ AW := AW_at 683 (by decide +kernel) (by decide +kernel)
theorem q_ml_X6_255 : Cond.methodLink RX6 255 yX6_drawBy ∈ AW := AW_at 684 (by decide +kernel) (by decide +kernel)
theorem q_st_X6_drawBy : Cond.static yX6_drawBy ∈ AW := AW_at 685 (by decide +kernel) (by decide +kernel)
theorem q_co_X6_drawBy : Cond.code yX6_drawBy cX6_drawBy 2 (some .int) ∈ AW := AW_at 686 (by decide +kernel) (by decide +kernel)
theorem q_ml_L_89 : Cond.methodLink RL 89 yX6_image ∈ AW := AW_at 687 (by decide +kernel) (by decide +kernel)
theorem q_im_X6_image : Cond.instanceMethod yX6_image ∈ AW := AW_at 688 (by decide +kernel) (by decide +kernel)
theorem q_se_X6_image : Cond.selects RX6 yX6_image yX6_image ∈ AW := AW_at 689 (by decide +kernel) (by decide +kernel)
theorem q_co_X6_image : Cond.code yX6_image cX6_image 1 (some .int) ∈ AW := AW_at 690 (by decide +kernel) (by decide +kernel)
theorem q_ml_X6_206 : Cond.methodLink RX6 206 yX3_copyFrom ∈ AW := AW_at 691 (by decide +kernel) (by decide +kernel)
theorem q_im_X3_copyFrom : Cond.instanceMethod yX3_copyFrom ∈ AW := AW_at 692 (by decide +kernel) (by decide +kernel)
theorem q_se_X3_copyFrom : Cond.selects RX3 yX3_copyFrom yX3_copyFrom ∈ AW := AW_at 693 (by decide +kernel) (by decide +kernel)
theorem q_co_X3_copyFrom : Cond.code yX3_copyFrom cX3_copyFrom 2 none ∈ AW := AW_at 694 (by decide +kernel) (by decide +kernel)
theorem q_ml_X3_25 : Cond.methodLink RX3 25 arraycopyName ∈ AW := AW_at 695 (by decide +kernel) (by decide +kernel)
theorem q_ml_L_93 : Cond.methodLink RL 93 yX6_restore ∈ AW := AW_at 696 (by decide +kernel) (by decide +kernel)
theorem q_im_X6_restore : Cond.instanceMethod yX6_restore ∈ AW := AW_at 697 (by decide +kernel) (by decide +kernel)
theorem q_se_X6_restore : Cond.selects RX6 yX6_restore yX6_restore ∈ AW := AW_at 698 (by decide +kernel) (by decide +kernel)
theorem q_co_X6_restore : Cond.code yX6_restore cX6_restore 1 (some .int) ∈ AW := AW_at 699 (by decide +kernel) (by decide +kernel)
theorem q_ml_L_97 : Cond.methodLink RL 97 yX6_count ∈ AW := AW_at 700 (by decide +kernel) (by decide +kernel)
theorem q_im_X6_count : Cond.instanceMethod yX6_count ∈ AW := AW_at 701 (by decide +kernel) (by decide +kernel)
theorem q_se_X6_count : Cond.selects RX6 yX6_count yX6_count ∈ AW := AW_at 702 (by decide +kernel) (by decide +kernel)
theorem q_co_X6_count : Cond.code yX6_count cX6_count 2 (some .int) ∈ AW := AW_at 703 (by decide +kernel) (by decide +kernel)
theorem q_ml_L_101 : Cond.methodLink RL 101 yX6_digest ∈ AW := AW_at 704 (by decide +kernel) (by decide +kernel)
theorem q_im_X6_digest : Cond.instanceMethod yX6_digest ∈ AW := AW_at 705 (by decide +kernel) (by decide +kernel)
theorem q_se_X6_digest : Cond.selects RX6 yX6_digest yX6_digest ∈ AW := AW_at 706 (by decide +kernel) (by decide +kernel)
theorem q_co_X6_digest : Cond.code yX6_digest cX6_digest 5 (some .long) ∈ AW := AW_at 707 (by decide +kernel) (by decide +kernel)
theorem q_ct_X6_222 : Cond.constantLong RX6 222 1381 ∈ AW := AW_at 708 (by decide +kernel) (by decide +kernel)
theorem q_ct_X6_224 : Cond.constantLong RX6 224 31 ∈ AW := AW_at 709 (by decide +kernel) (by decide +kernel)
theorem q_ml_X6_226 : Cond.methodLink RX6 226 yX6_node ∈ AW := AW_at 710 (by decide +kernel) (by decide +kernel)
theorem q_ml_X6_229 : Cond.methodLink RX6 229 yX6_edge ∈ AW := AW_at 711 (by decide +kernel) (by decide +kernel)
theorem q_ml_X6_232 : Cond.methodLink RX6 232 yX6_fold ∈ AW := AW_at 712 (by decide +kernel) (by decide +kernel)
theorem q_ml_X6_235 : Cond.methodLink RX6 235 yX6_joined ∈ AW := AW_at 713 (by decide +kernel) (by decide +kernel)
theorem q_st_X6_joined : Cond.static yX6_joined ∈ AW := AW_at 714 (by decide +kernel) (by decide +kernel)
theorem q_co_X6_joined : Cond.code yX6_joined cX6_joined 7 (some .long) ∈ AW := AW_at 715 (by decide +kernel) (by decide +kernel)
theorem q_ml_X6_242 : Cond.methodLink RX6 242 yX6_count ∈ AW := AW_at 716 (by decide +kernel) (by decide +kernel)
theorem q_cl_L_10 : Cond.classLink RL 10 RX7 ∈ AW := AW_at 717 (by decide +kernel) (by decide +kernel)
theorem q_ia_X7 : Cond.instantiable RX7 55 ∈ AW := AW_at 718 (by decide +kernel) (by decide +kernel)
theorem q_ml_L_12 : Cond.methodLink RL 12 yX7_init ∈ AW := AW_at 719 (by decide +kernel) (by decide +kernel)
theorem q_im_X7_init : Cond.instanceMethod yX7_init ∈ AW := AW_at 720 (by decide +kernel) (by decide +kernel)
theorem q_co_X7_init : Cond.code yX7_init cX7_init 1 none ∈ AW := AW_at 721 (by decide +kernel) (by decide +kernel)
theorem q_ml_X7_1 : Cond.methodLink RX7 1 objectInit ∈ AW := AW_at 722 (by decide +kernel) (by decide +kernel)
theorem q_fl_X7_127 : Cond.fieldLink RX7 127 "FlowFoldModel" "graphs" "I" ∈ AW := AW_at 723 (by decide +kernel) (by decide +kernel)
theorem q_fl_X7_121 : Cond.fieldLink RX7 121 "FlowFoldModel" "nodes" "I" ∈ AW := AW_at 724 (by decide +kernel) (by decide +kernel)
theorem q_fl_X7_7 : Cond.fieldLink RX7 7 "FlowFoldModel" "kindOf" "[I" ∈ AW := AW_at 725 (by decide +kernel) (by decide +kernel)
theorem q_fl_X7_13 : Cond.fieldLink RX7 13 "FlowFoldModel" "to" "[I" ∈ AW := AW_at 726 (by decide +kernel) (by decide +kernel)
theorem q_fl_X7_124 : Cond.fieldLink RX7 124 "FlowFoldModel" "visits" "I" ∈ AW := AW_at 727 (by decide +kernel) (by decide +kernel)
theorem q_fl_X7_16 : Cond.fieldLink RX7 16 "FlowFoldModel" "visited" "[I" ∈ AW := AW_at 728 (by decide +kernel) (by decide +kernel)
theorem q_fl_X7_283 : Cond.fieldLink RX7 283 "FlowFoldModel" "mends" "I" ∈ AW := AW_at 729 (by decide +kernel) (by decide +kernel)
theorem q_fl_X7_130 : Cond.fieldLink RX7 130 "FlowFoldModel" "seen" "I" ∈ AW := AW_at 730 (by decide +kernel) (by decide +kernel)
theorem q_fl_X7_19 : Cond.fieldLink RX7 19 "FlowFoldModel" "seenNode" "[I" ∈ AW := AW_at 731 (by decide +kernel) (by decide +kernel)
theorem q_fl_X7_22 : Cond.fieldLink RX7 22 "FlowFoldModel" "seenVisit" "[I" ∈ AW := AW_at 732 (by decide +kernel) (by decide +kernel)
theorem q_fl_X7_25 : Cond.fieldLink RX7 25 "FlowFoldModel" "seenDid" "[I" ∈ AW := AW_at 733 (by decide +kernel) (by decide +kernel)
theorem q_fl_X7_93 : Cond.fieldLink RX7 93 "FlowFoldModel" "pageLength" "I" ∈ AW := AW_at 734 (by decide +kernel) (by decide +kernel)
theorem q_fl_X7_28 : Cond.fieldLink RX7 28 "FlowFoldModel" "page" "[B" ∈ AW := AW_at 735 (by decide +kernel) (by decide +kernel)
theorem q_fl_X7_97 : Cond.fieldLink RX7 97 "FlowFoldModel" "isWhole" "Z" ∈ AW := AW_at 736 (by decide +kernel) (by decide +kernel)
theorem q_fl_X7_101 : Cond.fieldLink RX7 101 "FlowFoldModel" "newNodes" "I" ∈ AW := AW_at 737 (by decide +kernel) (by decide +kernel)
theorem q_fl_X7_104 : Cond.fieldLink RX7 104 "FlowFoldModel" "most" "I" ∈ AW := AW_at 738 (by decide +kernel) (by decide +kernel)
theorem q_fl_X7_32 : Cond.fieldLink RX7 32 "FlowFoldModel" "newKind" "[I" ∈ AW := AW_at 739 (by decide +kernel) (by decide +kernel)
theorem q_fl_X7_35 : Cond.fieldLink RX7 35 "FlowFoldModel" "newTo" "[I" ∈ AW := AW_at 740 (by decide +kernel) (by decide +kernel)
theorem q_fl_X7_133 : Cond.fieldLink RX7 133 "FlowFoldModel" "many" "I" ∈ AW := AW_at 741 (by decide +kernel) (by decide +kernel)
theorem q_fl_X7_136 : Cond.fieldLink RX7 136 "FlowFoldModel" "gone" "I" ∈ AW := AW_at 742 (by decide +kernel) (by decide +kernel)
theorem q_fl_X7_38 : Cond.fieldLink RX7 38 "FlowFoldModel" "kindNow" "[I" ∈ AW := AW_at 743 (by decide +kernel) (by decide +kernel)
theorem q_fl_X7_41 : Cond.fieldLink RX7 41 "FlowFoldModel" "toNow" "[I" ∈ AW := AW_at 744 (by decide +kernel) (by decide +kernel)
theorem q_fl_X7_143 : Cond.fieldLink RX7 143 "FlowFoldModel" "reached" "I" ∈ AW := AW_at 745 (by decide +kernel) (by decide +kernel)
theorem q_fl_X7_150 : Cond.fieldLink RX7 150 "FlowFoldModel" "reachedMany" "I" ∈ AW := AW_at 746 (by decide +kernel) (by decide +kernel)
theorem q_fl_X7_44 : Cond.fieldLink RX7 44 "FlowFoldModel" "order" "[I" ∈ AW := AW_at 747 (by decide +kernel) (by decide +kernel)
theorem q_fl_X7_47 : Cond.fieldLink RX7 47 "FlowFoldModel" "placeOf" "[I" ∈ AW := AW_at 748 (by decide +kernel) (by decide +kernel)
theorem q_fl_X7_50 : Cond.fieldLink RX7 50 "FlowFoldModel" "above" "[I" ∈ AW := AW_at 749 (by decide +kernel) (by decide +kernel)
theorem q_fl_X7_53 : Cond.fieldLink RX7 53 "FlowFoldModel" "lord" "[I" ∈ AW := AW_at 750 (by decide +kernel) (by decide +kernel)
theorem q_fl_X7_159 : Cond.fieldLink RX7 159 "FlowFoldModel" "edges" "I" ∈ AW := AW_at 751 (by decide +kernel) (by decide +kernel)
theorem q_fl_X7_162 : Cond.fieldLink RX7 162 "FlowFoldModel" "backs" "I" ∈ AW := AW_at 752 (by decide +kernel) (by decide +kernel)
theorem q_fl_X7_165 : Cond.fieldLink RX7 165 "FlowFoldModel" "bads" "I" ∈ AW := AW_at 753 (by decide +kernel) (by decide +kernel)
theorem q_fl_X7_168 : Cond.fieldLink RX7 168 "FlowFoldModel" "heads" "I" ∈ AW := AW_at 754 (by decide +kernel) (by decide +kernel)
theorem q_fl_X7_171 : Cond.fieldLink RX7 171 "FlowFoldModel" "merges" "I" ∈ AW := AW_at 755 (by decide +kernel) (by decide +kernel)
theorem q_fl_X7_56 : Cond.fieldLink RX7 56 "FlowFoldModel" "begun" "[I" ∈ AW := AW_at 756 (by decide +kernel) (by decide +kernel)
theorem q_fl_X7_59 : Cond.fieldLink RX7 59 "FlowFoldModel" "step" "[I" ∈ AW := AW_at 757 (by decide +kernel) (by decide +kernel)
theorem q_fl_X7_62 : Cond.fieldLink RX7 62 "FlowFoldModel" "often" "[I" ∈ AW := AW_at 758 (by decide +kernel) (by decide +kernel)
theorem q_fl_X7_227 : Cond.fieldLink RX7 227 "FlowFoldModel" "signs" "I" ∈ AW := AW_at 759 (by decide +kernel) (by decide +kernel)
theorem q_fl_X7_246 : Cond.fieldLink RX7 246 "FlowFoldModel" "outs" "I" ∈ AW := AW_at 760 (by decide +kernel) (by decide +kernel)
theorem q_fl_X7_249 : Cond.fieldLink RX7 249 "FlowFoldModel" "deeps" "I" ∈ AW := AW_at 761 (by decide +kernel) (by decide +kernel)
theorem q_fl_X7_236 : Cond.fieldLink RX7 236 "FlowFoldModel" "deepest" "I" ∈ AW := AW_at 762 (by decide +kernel) (by decide +kernel)
theorem q_fl_X7_65 : Cond.fieldLink RX7 65 "FlowFoldModel" "signOf" "[I" ∈ AW := AW_at 763 (by decide +kernel) (by decide +kernel)
theorem q_fl_X7_230 : Cond.fieldLink RX7 230 "FlowFoldModel" "left" "I" ∈ AW := AW_at 764 (by decide +kernel) (by decide +kernel)
theorem q_fl_X7_68 : Cond.fieldLink RX7 68 "FlowFoldModel" "waiting" "[I" ∈ AW := AW_at 765 (by decide +kernel) (by decide +kernel)
theorem q_fl_X7_233 : Cond.fieldLink RX7 233 "FlowFoldModel" "opened" "I" ∈ AW := AW_at 766 (by decide +kernel) (by decide +kernel)
theorem q_fl_X7_71 : Cond.fieldLink RX7 71 "FlowFoldModel" "open" "[I" ∈ AW := AW_at 767 (by decide +kernel) (by decide +kernel)
theorem q_fl_X7_298 : Cond.fieldLink RX7 298 "FlowFoldModel" "seedNow" "J" ∈ AW := AW_at 768 (by decide +kernel) (by decide +kernel)
theorem q_fl_X7_314 : Cond.fieldLink RX7 314 "FlowFoldModel" "isKept" "Z" ∈ AW := AW_at 769 (by decide +kernel) (by decide +kernel)
theorem q_fl_X7_317 : Cond.fieldLink RX7 317 "FlowFoldModel" "keptGraph" "I" ∈ AW := AW_at 770 (by decide +kernel) (by decide +kernel)
theorem q_fl_X7_320 : Cond.fieldLink RX7 320 "FlowFoldModel" "keptSeen" "I" ∈ AW := AW_at 771 (by decide +kernel) (by decide +kernel)
theorem q_fl_X7_74 : Cond.fieldLink RX7 74 "FlowFoldModel" "keptKind" "[I" ∈ AW := AW_at 772 (by decide +kernel) (by decide +kernel)
theorem q_fl_X7_77 : Cond.fieldLink RX7 77 "FlowFoldModel" "keptTo" "[I" ∈ AW := AW_at 773 (by decide +kernel) (by decide +kernel)
theorem q_fl_X7_80 : Cond.fieldLink RX7 80 "FlowFoldModel" "keptNode" "[I" ∈ AW := AW_at 774 (by decide +kernel) (by decide +kernel)
theorem q_fl_X7_83 : Cond.fieldLink RX7 83 "FlowFoldModel" "keptVisit" "[I" ∈ AW := AW_at 775 (by decide +kernel) (by decide +kernel)
theorem q_fl_X7_86 : Cond.fieldLink RX7 86 "FlowFoldModel" "keptDid" "[I" ∈ AW := AW_at 776 (by decide +kernel) (by decide +kernel)
theorem q_fl_X7_331 : Cond.fieldLink RX7 331 "FlowFoldModel" "h" "J" ∈ AW := AW_at 777 (by decide +kernel) (by decide +kernel)
theorem q_ml_L_17 : Cond.methodLink RL 17 yX7_letter ∈ AW := AW_at 889 (by decide +kernel) (by decide +kernel)
theorem q_im_X7_letter : Cond.instanceMethod yX7_letter ∈ AW := AW_at 890 (by decide +kernel) (by decide +kernel)
theorem q_se_X7_letter : Cond.selects RX7 yX7_letter yX7_letter ∈ AW := AW_at 891 (by decide +kernel) (by decide +kernel)
theorem q_co_X7_letter : Cond.code yX7_letter cX7_letter 2 (some .int) ∈ AW := AW_at 892 (by decide +kernel) (by decide +kernel)
theorem q_ml_X7_89 : Cond.methodLink RX7 89 yX7_within ∈ AW := AW_at 893 (by decide +kernel) (by decide +kernel)
theorem q_st_X7_within : Cond.static yX7_within ∈ AW := AW_at 894 (by decide +kernel) (by decide +kernel)
theorem q_co_X7_within : Cond.code yX7_within cX7_within 3 (some .boolean) ∈ AW := AW_at 895 (by decide +kernel) (by decide +kernel)
theorem q_ml_L_22 : Cond.methodLink RL 22 yX7_blank ∈ AW := AW_at 896 (by decide +kernel) (by decide +kernel)
theorem q_im_X7_blank : Cond.instanceMethod yX7_blank ∈ AW := AW_at 897 (by decide +kernel) (by decide +kernel)
theorem q_se_X7_blank : Cond.selects RX7 yX7_blank yX7_blank ∈ AW := AW_at 898 (by decide +kernel) (by decide +kernel)
theorem q_co_X7_blank : Cond.code yX7_blank cX7_blank 2 (some .int) ∈ AW := AW_at 899 (by decide +kernel) (by decide +kernel)
theorem q_ml_L_26 : Cond.methodLink RL 26 yX7_fault ∈ AW := AW_at 900 (by decide +kernel) (by decide +kernel)
theorem q_im_X7_fault : Cond.instanceMethod yX7_fault ∈ AW := AW_at 901 (by decide +kernel) (by decide +kernel)
theorem q_se_X7_fault : Cond.selects RX7 yX7_fault yX7_fault ∈ AW := AW_at 902 (by decide +kernel) (by decide +kernel)
theorem q_co_X7_fault : Cond.code yX7_fault cX7_fault 1 (some .int) ∈ AW := AW_at 903 (by decide +kernel) (by decide +kernel)
theorem q_ml_X7_117 : Cond.methodLink RX7 117 yX7_read ∈ AW := AW_at 904 (by decide +kernel) (by decide +kernel)
theorem q_im_X7_read : Cond.instanceMethod yX7_read ∈ AW := AW_at 906 (by decide +kernel) (by decide +kernel)
theorem q_co_X7_read : Cond.code yX7_read cX7_read 5 (some .int) ∈ AW := AW_at 907 (by decide +kernel) (by decide +kernel)
theorem q_ml_X7_107 : Cond.methodLink RX7 107 yX7_at ∈ AW := AW_at 908 (by decide +kernel) (by decide +kernel)
theorem q_im_X7_at : Cond.instanceMethod yX7_at ∈ AW := AW_at 910 (by decide +kernel) (by decide +kernel)
theorem q_co_X7_at : Cond.code yX7_at cX7_at 2 (some .int) ∈ AW := AW_at 911 (by decide +kernel) (by decide +kernel)
theorem q_ml_X7_111 : Cond.methodLink RX7 111 yX7_kindBy ∈ AW := AW_at 912 (by decide +kernel) (by decide +kernel)
theorem q_st_X7_kindBy : Cond.static yX7_kindBy ∈ AW := AW_at 913 (by decide +kernel) (by decide +kernel)
theorem q_co_X7_kindBy : Cond.code yX7_kindBy cX7_kindBy 1 (some .int) ∈ AW := AW_at 914 (by decide +kernel) (by decide +kernel)
theorem q_ml_X7_114 : Cond.methodLink RX7 114 yX7_ends ∈ AW := AW_at 915 (by decide +kernel) (by decide +kernel)
theorem q_st_X7_ends : Cond.static yX7_ends ∈ AW := AW_at 916 (by decide +kernel) (by decide +kernel)
theorem q_co_X7_ends : Cond.code yX7_ends cX7_ends 1 (some .int) ∈ AW := AW_at 917 (by decide +kernel) (by decide +kernel)
theorem q_ml_L_30 : Cond.methodLink RL 30 yX7_graph ∈ AW := AW_at 918 (by decide +kernel) (by decide +kernel)
theorem q_im_X7_graph : Cond.instanceMethod yX7_graph ∈ AW := AW_at 919 (by decide +kernel) (by decide +kernel)
theorem q_se_X7_graph : Cond.selects RX7 yX7_graph yX7_graph ∈ AW := AW_at 920 (by decide +kernel) (by decide +kernel)
theorem q_co_X7_graph : Cond.code yX7_graph cX7_graph 2 (some .int) ∈ AW := AW_at 921 (by decide +kernel) (by decide +kernel)
theorem q_ml_L_35 : Cond.methodLink RL 35 yX7_node ∈ AW := AW_at 922 (by decide +kernel) (by decide +kernel)
theorem q_im_X7_node : Cond.instanceMethod yX7_node ∈ AW := AW_at 923 (by decide +kernel) (by decide +kernel)
theorem q_se_X7_node : Cond.selects RX7 yX7_node yX7_node ∈ AW := AW_at 924 (by decide +kernel) (by decide +kernel)
theorem q_co_X7_node : Cond.code yX7_node cX7_node 3 (some .int) ∈ AW := AW_at 925 (by decide +kernel) (by decide +kernel)
theorem q_ml_X7_207 : Cond.methodLink RX7 207 yX7_isNode ∈ AW := AW_at 926 (by decide +kernel) (by decide +kernel)
theorem q_im_X7_isNode : Cond.instanceMethod yX7_isNode ∈ AW := AW_at 928 (by decide +kernel) (by decide +kernel)
theorem q_co_X7_isNode : Cond.code yX7_isNode cX7_isNode 2 (some .boolean) ∈ AW := AW_at 929 (by decide +kernel) (by decide +kernel)
theorem q_ml_X7_210 : Cond.methodLink RX7 210 yX7_layNow ∈ AW := AW_at 930 (by decide +kernel) (by decide +kernel)
theorem q_im_X7_layNow : Cond.instanceMethod yX7_layNow ∈ AW := AW_at 932 (by decide +kernel) (by decide +kernel)
theorem q_co_X7_layNow : Cond.code yX7_layNow cX7_layNow 1 none ∈ AW := AW_at 933 (by decide +kernel) (by decide +kernel)
theorem q_ml_X7_192 : Cond.methodLink RX7 192 yX7_layGraph ∈ AW := AW_at 934 (by decide +kernel) (by decide +kernel)
theorem q_im_X7_layGraph : Cond.instanceMethod yX7_layGraph ∈ AW := AW_at 936 (by decide +kernel) (by decide +kernel)
theorem q_co_X7_layGraph : Cond.code yX7_layGraph cX7_layGraph 2 none ∈ AW := AW_at 937 (by decide +kernel) (by decide +kernel)
theorem q_ml_X7_195 : Cond.methodLink RX7 195 yX7_lay ∈ AW := AW_at 938 (by decide +kernel) (by decide +kernel)
theorem q_im_X7_lay : Cond.instanceMethod yX7_lay ∈ AW := AW_at 940 (by decide +kernel) (by decide +kernel)
theorem q_co_X7_lay : Cond.code yX7_lay cX7_lay 1 none ∈ AW := AW_at 941 (by decide +kernel) (by decide +kernel)
theorem q_ml_X7_183 : Cond.methodLink RX7 183 yX7_layOrder ∈ AW := AW_at 942 (by decide +kernel) (by decide +kernel)
theorem q_im_X7_layOrder : Cond.instanceMethod yX7_layOrder ∈ AW := AW_at 944 (by decide +kernel) (by decide +kernel)
theorem q_co_X7_layOrder : Cond.code yX7_layOrder cX7_layOrder 5 none ∈ AW := AW_at 945 (by decide +kernel) (by decide +kernel)
theorem q_ml_X7_146 : Cond.methodLink RX7 146 yX7_isEdge ∈ AW := AW_at 946 (by decide +kernel) (by decide +kernel)
theorem q_im_X7_isEdge : Cond.instanceMethod yX7_isEdge ∈ AW := AW_at 948 (by decide +kernel) (by decide +kernel)
theorem q_co_X7_isEdge : Cond.code yX7_isEdge cX7_isEdge 2 (some .boolean) ∈ AW := AW_at 949 (by decide +kernel) (by decide +kernel)
theorem q_ml_X7_139 : Cond.methodLink RX7 139 yX7_isIn ∈ AW := AW_at 950 (by decide +kernel) (by decide +kernel)
theorem q_st_X7_isIn : Cond.static yX7_isIn ∈ AW := AW_at 951 (by decide +kernel) (by decide +kernel)
theorem q_co_X7_isIn : Cond.code yX7_isIn cX7_isIn 2 (some .boolean) ∈ AW := AW_at 952 (by decide +kernel) (by decide +kernel)
theorem q_ml_X7_186 : Cond.methodLink RX7 186 yX7_layLords ∈ AW := AW_at 953 (by decide +kernel) (by decide +kernel)
theorem q_im_X7_layLords : Cond.instanceMethod yX7_layLords ∈ AW := AW_at 955 (by decide +kernel) (by decide +kernel)
theorem q_co_X7_layLords : Cond.code yX7_layLords cX7_layLords 4 none ∈ AW := AW_at 956 (by decide +kernel) (by decide +kernel)
theorem q_ml_X7_153 : Cond.methodLink RX7 153 yX7_without ∈ AW := AW_at 957 (by decide +kernel) (by decide +kernel)
theorem q_im_X7_without : Cond.instanceMethod yX7_without ∈ AW := AW_at 959 (by decide +kernel) (by decide +kernel)
theorem q_co_X7_without : Cond.code yX7_without cX7_without 6 (some .int) ∈ AW := AW_at 960 (by decide +kernel) (by decide +kernel)
theorem q_ml_X7_156 : Cond.methodLink RX7 156 yX7_size ∈ AW := AW_at 961 (by decide +kernel) (by decide +kernel)
theorem q_st_X7_size : Cond.static yX7_size ∈ AW := AW_at 962 (by decide +kernel) (by decide +kernel)
theorem q_co_X7_size : Cond.code yX7_size cX7_size 3 (some .int) ∈ AW := AW_at 963 (by decide +kernel) (by decide +kernel)
theorem q_ml_X7_189 : Cond.methodLink RX7 189 yX7_layEdges ∈ AW := AW_at 964 (by decide +kernel) (by decide +kernel)
theorem q_im_X7_layEdges : Cond.instanceMethod yX7_layEdges ∈ AW := AW_at 966 (by decide +kernel) (by decide +kernel)
theorem q_co_X7_layEdges : Cond.code yX7_layEdges cX7_layEdges 4 none ∈ AW := AW_at 967 (by decide +kernel) (by decide +kernel)
theorem q_ml_X7_174 : Cond.methodLink RX7 174 yX7_isLive ∈ AW := AW_at 968 (by decide +kernel) (by decide +kernel)
theorem q_im_X7_isLive : Cond.instanceMethod yX7_isLive ∈ AW := AW_at 970 (by decide +kernel) (by decide +kernel)
theorem q_co_X7_isLive : Cond.code yX7_isLive cX7_isLive 2 (some .boolean) ∈ AW := AW_at 971 (by decide +kernel) (by decide +kernel)
theorem q_ml_X7_177 : Cond.methodLink RX7 177 yX7_isBack ∈ AW := AW_at 972 (by decide +kernel) (by decide +kernel)
theorem q_im_X7_isBack : Cond.instanceMethod yX7_isBack ∈ AW := AW_at 974 (by decide +kernel) (by decide +kernel)
theorem q_co_X7_isBack : Cond.code yX7_isBack cX7_isBack 2 (some .boolean) ∈ AW := AW_at 975 (by decide +kernel) (by decide +kernel)
theorem q_ml_X7_180 : Cond.methodLink RX7 180 yX7_retreats ∈ AW := AW_at 976 (by decide +kernel) (by decide +kernel)
theorem q_im_X7_retreats : Cond.instanceMethod yX7_retreats ∈ AW := AW_at 978 (by decide +kernel) (by decide +kernel)
theorem q_co_X7_retreats : Cond.code yX7_retreats cX7_retreats 2 (some .boolean) ∈ AW := AW_at 979 (by decide +kernel) (by decide +kernel)
theorem q_ml_X7_213 : Cond.methodLink RX7 213 yX7_nodeNow ∈ AW := AW_at 980 (by decide +kernel) (by decide +kernel)
theorem q_im_X7_nodeNow : Cond.instanceMethod yX7_nodeNow ∈ AW := AW_at 982 (by decide +kernel) (by decide +kernel)
theorem q_co_X7_nodeNow : Cond.code yX7_nodeNow cX7_nodeNow 3 (some .int) ∈ AW := AW_at 983 (by decide +kernel) (by decide +kernel)
theorem q_ml_X7_198 : Cond.methodLink RX7 198 yX7_dominated ∈ AW := AW_at 984 (by decide +kernel) (by decide +kernel)
theorem q_im_X7_dominated : Cond.instanceMethod yX7_dominated ∈ AW := AW_at 986 (by decide +kernel) (by decide +kernel)
theorem q_co_X7_dominated : Cond.code yX7_dominated cX7_dominated 4 (some .int) ∈ AW := AW_at 987 (by decide +kernel) (by decide +kernel)
theorem q_ml_X7_201 : Cond.methodLink RX7 201 yX7_sortsOf ∈ AW := AW_at 988 (by decide +kernel) (by decide +kernel)
theorem q_im_X7_sortsOf : Cond.instanceMethod yX7_sortsOf ∈ AW := AW_at 990 (by decide +kernel) (by decide +kernel)
theorem q_co_X7_sortsOf : Cond.code yX7_sortsOf cX7_sortsOf 6 (some .int) ∈ AW := AW_at 991 (by decide +kernel) (by decide +kernel)
theorem q_ml_X7_292 : Cond.methodLink RX7 292 yX7_could ∈ AW := AW_at 992 (by decide +kernel) (by decide +kernel)
theorem q_st_X7_could : Cond.static yX7_could ∈ AW := AW_at 993 (by decide +kernel) (by decide +kernel)
theorem q_co_X7_could : Cond.code yX7_could cX7_could 3 (some .boolean) ∈ AW := AW_at 994 (by decide +kernel) (by decide +kernel)
theorem q_ml_X7_220 : Cond.methodLink RX7 220 yX7_endBy ∈ AW := AW_at 995 (by decide +kernel) (by decide +kernel)
theorem q_st_X7_endBy : Cond.static yX7_endBy ∈ AW := AW_at 996 (by decide +kernel) (by decide +kernel)
theorem q_co_X7_endBy : Cond.code yX7_endBy cX7_endBy 3 (some .int) ∈ AW := AW_at 997 (by decide +kernel) (by decide +kernel)
theorem q_ml_X7_204 : Cond.methodLink RX7 204 yX7_askOf ∈ AW := AW_at 998 (by decide +kernel) (by decide +kernel)
theorem q_im_X7_askOf : Cond.instanceMethod yX7_askOf ∈ AW := AW_at 1000 (by decide +kernel) (by decide +kernel)
theorem q_co_X7_askOf : Cond.code yX7_askOf cX7_askOf 10 (some .int) ∈ AW := AW_at 1001 (by decide +kernel) (by decide +kernel)
theorem q_ct_X7_295 : Cond.constant RX7 295 268435456 ∈ AW := AW_at 1002 (by decide +kernel) (by decide +kernel)
theorem q_ml_L_39 : Cond.methodLink RL 39 yX7_as ∈ AW := AW_at 1003 (by decide +kernel) (by decide +kernel)
theorem q_im_X7_as : Cond.instanceMethod yX7_as ∈ AW := AW_at 1004 (by decide +kernel) (by decide +kernel)
theorem q_se_X7_as : Cond.selects RX7 yX7_as yX7_as ∈ AW := AW_at 1005 (by decide +kernel) (by decide +kernel)
theorem q_co_X7_as : Cond.code yX7_as cX7_as 4 (some .int) ∈ AW := AW_at 1006 (by decide +kernel) (by decide +kernel)
theorem q_ml_L_43 : Cond.methodLink RL 43 yX7_dominates ∈ AW := AW_at 1007 (by decide +kernel) (by decide +kernel)
theorem q_im_X7_dominates : Cond.instanceMethod yX7_dominates ∈ AW := AW_at 1008 (by decide +kernel) (by decide +kernel)
theorem q_se_X7_dominates : Cond.selects RX7 yX7_dominates yX7_dominates ∈ AW := AW_at 1009 (by decide +kernel) (by decide +kernel)
theorem q_co_X7_dominates : Cond.code yX7_dominates cX7_dominates 3 (some .int) ∈ AW := AW_at 1010 (by decide +kernel) (by decide +kernel)
theorem q_ml_L_47 : Cond.methodLink RL 47 yX7_edge ∈ AW := AW_at 1011 (by decide +kernel) (by decide +kernel)
theorem q_im_X7_edge : Cond.instanceMethod yX7_edge ∈ AW := AW_at 1012 (by decide +kernel) (by decide +kernel)
theorem q_se_X7_edge : Cond.selects RX7 yX7_edge yX7_edge ∈ AW := AW_at 1013 (by decide +kernel) (by decide +kernel)
theorem q_co_X7_edge : Cond.code yX7_edge cX7_edge 3 (some .int) ∈ AW := AW_at 1014 (by decide +kernel) (by decide +kernel)
theorem q_ml_X7_217 : Cond.methodLink RX7 217 yX7_edgeNow ∈ AW := AW_at 1015 (by decide +kernel) (by decide +kernel)
theorem q_im_X7_edgeNow : Cond.instanceMethod yX7_edgeNow ∈ AW := AW_at 1017 (by decide +kernel) (by decide +kernel)
theorem q_co_X7_edgeNow : Cond.code yX7_edgeNow cX7_edgeNow 2 (some .int) ∈ AW := AW_at 1018 (by decide +kernel) (by decide +kernel)
theorem q_ml_L_52 : Cond.methodLink RL 52 yX7_aim ∈ AW := AW_at 1019 (by decide +kernel) (by decide +kernel)
theorem q_im_X7_aim : Cond.instanceMethod yX7_aim ∈ AW := AW_at 1020 (by decide +kernel) (by decide +kernel)
theorem q_se_X7_aim : Cond.selects RX7 yX7_aim yX7_aim ∈ AW := AW_at 1021 (by decide +kernel) (by decide +kernel)
theorem q_co_X7_aim : Cond.code yX7_aim cX7_aim 5 (some .int) ∈ AW := AW_at 1022 (by decide +kernel) (by decide +kernel)
theorem q_ml_L_56 : Cond.methodLink RL 56 yX7_be ∈ AW := AW_at 1023 (by decide +kernel) (by decide +kernel)
theorem q_im_X7_be : Cond.instanceMethod yX7_be ∈ AW := AW_at 1024 (by decide +kernel) (by decide +kernel)
theorem q_se_X7_be : Cond.selects RX7 yX7_be yX7_be ∈ AW := AW_at 1025 (by decide +kernel) (by decide +kernel)
theorem q_co_X7_be : Cond.code yX7_be cX7_be 4 (some .int) ∈ AW := AW_at 1026 (by decide +kernel) (by decide +kernel)
theorem q_ml_L_60 : Cond.methodLink RL 60 yX7_walk ∈ AW := AW_at 1027 (by decide +kernel) (by decide +kernel)
theorem q_im_X7_walk : Cond.instanceMethod yX7_walk ∈ AW := AW_at 1028 (by decide +kernel) (by decide +kernel)
theorem q_se_X7_walk : Cond.selects RX7 yX7_walk yX7_walk ∈ AW := AW_at 1029 (by decide +kernel) (by decide +kernel)
theorem q_co_X7_walk : Cond.code yX7_walk cX7_walk 2 (some .int) ∈ AW := AW_at 1030 (by decide +kernel) (by decide +kernel)
theorem q_ml_X7_224 : Cond.methodLink RX7 224 yX7_walkNow ∈ AW := AW_at 1031 (by decide +kernel) (by decide +kernel)
theorem q_im_X7_walkNow : Cond.instanceMethod yX7_walkNow ∈ AW := AW_at 1033 (by decide +kernel) (by decide +kernel)
theorem q_co_X7_walkNow : Cond.code yX7_walkNow cX7_walkNow 6 (some .int) ∈ AW := AW_at 1034 (by decide +kernel) (by decide +kernel)
theorem q_ml_L_64 : Cond.methodLink RL 64 yX7_visit ∈ AW := AW_at 1035 (by decide +kernel) (by decide +kernel)
theorem q_im_X7_visit : Cond.instanceMethod yX7_visit ∈ AW := AW_at 1036 (by decide +kernel) (by decide +kernel)
theorem q_se_X7_visit : Cond.selects RX7 yX7_visit yX7_visit ∈ AW := AW_at 1037 (by decide +kernel) (by decide +kernel)
theorem q_co_X7_visit : Cond.code yX7_visit cX7_visit 2 (some .int) ∈ AW := AW_at 1038 (by decide +kernel) (by decide +kernel)
theorem q_ml_L_68 : Cond.methodLink RL 68 yX7_sign ∈ AW := AW_at 1039 (by decide +kernel) (by decide +kernel)
theorem q_im_X7_sign : Cond.instanceMethod yX7_sign ∈ AW := AW_at 1040 (by decide +kernel) (by decide +kernel)
theorem q_se_X7_sign : Cond.selects RX7 yX7_sign yX7_sign ∈ AW := AW_at 1041 (by decide +kernel) (by decide +kernel)
theorem q_co_X7_sign : Cond.code yX7_sign cX7_sign 2 (some .int) ∈ AW := AW_at 1042 (by decide +kernel) (by decide +kernel)
theorem q_ml_X7_277 : Cond.methodLink RX7 277 yX7_layFold ∈ AW := AW_at 1043 (by decide +kernel) (by decide +kernel)
theorem q_im_X7_layFold : Cond.instanceMethod yX7_layFold ∈ AW := AW_at 1045 (by decide +kernel) (by decide +kernel)
theorem q_co_X7_layFold : Cond.code yX7_layFold cX7_layFold 1 none ∈ AW := AW_at 1046 (by decide +kernel) (by decide +kernel)
theorem q_ml_X7_255 : Cond.methodLink RX7 255 yX7_later ∈ AW := AW_at 1047 (by decide +kernel) (by decide +kernel)
theorem q_im_X7_later : Cond.instanceMethod yX7_later ∈ AW := AW_at 1049 (by decide +kernel) (by decide +kernel)
theorem q_co_X7_later : Cond.code yX7_later cX7_later 2 none ∈ AW := AW_at 1050 (by decide +kernel) (by decide +kernel)
theorem q_ml_X7_274 : Cond.methodLink RX7 274 yX7_doNext ∈ AW := AW_at 1051 (by decide +kernel) (by decide +kernel)
theorem q_im_X7_doNext : Cond.instanceMethod yX7_doNext ∈ AW := AW_at 1053 (by decide +kernel) (by decide +kernel)
theorem q_co_X7_doNext : Cond.code yX7_doNext cX7_doNext 4 none ∈ AW := AW_at 1054 (by decide +kernel) (by decide +kernel)
theorem q_ml_X7_262 : Cond.methodLink RX7 262 yX7_layTree ∈ AW := AW_at 1055 (by decide +kernel) (by decide +kernel)
theorem q_im_X7_layTree : Cond.instanceMethod yX7_layTree ∈ AW := AW_at 1057 (by decide +kernel) (by decide +kernel)
theorem q_co_X7_layTree : Cond.code yX7_layTree cX7_layTree 2 none ∈ AW := AW_at 1058 (by decide +kernel) (by decide +kernel)
theorem q_ml_X7_265 : Cond.methodLink RX7 265 yX7_layWithin ∈ AW := AW_at 1059 (by decide +kernel) (by decide +kernel)
theorem q_im_X7_layWithin : Cond.instanceMethod yX7_layWithin ∈ AW := AW_at 1061 (by decide +kernel) (by decide +kernel)
theorem q_co_X7_layWithin : Cond.code yX7_layWithin cX7_layWithin 4 none ∈ AW := AW_at 1062 (by decide +kernel) (by decide +kernel)
theorem q_ml_X7_252 : Cond.methodLink RX7 252 yX7_isBlock ∈ AW := AW_at 1063 (by decide +kernel) (by decide +kernel)
theorem q_im_X7_isBlock : Cond.instanceMethod yX7_isBlock ∈ AW := AW_at 1065 (by decide +kernel) (by decide +kernel)
theorem q_co_X7_isBlock : Cond.code yX7_isBlock cX7_isBlock 3 (some .boolean) ∈ AW := AW_at 1066 (by decide +kernel) (by decide +kernel)
theorem q_ml_X7_268 : Cond.methodLink RX7 268 yX7_branch ∈ AW := AW_at 1067 (by decide +kernel) (by decide +kernel)
theorem q_im_X7_branch : Cond.instanceMethod yX7_branch ∈ AW := AW_at 1069 (by decide +kernel) (by decide +kernel)
theorem q_co_X7_branch : Cond.code yX7_branch cX7_branch 3 none ∈ AW := AW_at 1070 (by decide +kernel) (by decide +kernel)
theorem q_ml_X7_258 : Cond.methodLink RX7 258 yX7_goOut ∈ AW := AW_at 1071 (by decide +kernel) (by decide +kernel)
theorem q_im_X7_goOut : Cond.instanceMethod yX7_goOut ∈ AW := AW_at 1073 (by decide +kernel) (by decide +kernel)
theorem q_co_X7_goOut : Cond.code yX7_goOut cX7_goOut 4 none ∈ AW := AW_at 1074 (by decide +kernel) (by decide +kernel)
theorem q_ml_X7_239 : Cond.methodLink RX7 239 yX7_depthOf ∈ AW := AW_at 1075 (by decide +kernel) (by decide +kernel)
theorem q_im_X7_depthOf : Cond.instanceMethod yX7_depthOf ∈ AW := AW_at 1077 (by decide +kernel) (by decide +kernel)
theorem q_co_X7_depthOf : Cond.code yX7_depthOf cX7_depthOf 3 (some .int) ∈ AW := AW_at 1078 (by decide +kernel) (by decide +kernel)
theorem q_ml_X7_242 : Cond.methodLink RX7 242 yX7_tell ∈ AW := AW_at 1079 (by decide +kernel) (by decide +kernel)
theorem q_im_X7_tell : Cond.instanceMethod yX7_tell ∈ AW := AW_at 1081 (by decide +kernel) (by decide +kernel)
theorem q_co_X7_tell : Cond.code yX7_tell cX7_tell 2 none ∈ AW := AW_at 1082 (by decide +kernel) (by decide +kernel)
theorem q_ml_X7_271 : Cond.methodLink RX7 271 yX7_opens ∈ AW := AW_at 1083 (by decide +kernel) (by decide +kernel)
theorem q_im_X7_opens : Cond.instanceMethod yX7_opens ∈ AW := AW_at 1085 (by decide +kernel) (by decide +kernel)
theorem q_co_X7_opens : Cond.code yX7_opens cX7_opens 2 none ∈ AW := AW_at 1086 (by decide +kernel) (by decide +kernel)
theorem q_ml_L_72 : Cond.methodLink RL 72 yX7_fold ∈ AW := AW_at 1087 (by decide +kernel) (by decide +kernel)
theorem q_im_X7_fold : Cond.instanceMethod yX7_fold ∈ AW := AW_at 1088 (by decide +kernel) (by decide +kernel)
theorem q_se_X7_fold : Cond.selects RX7 yX7_fold yX7_fold ∈ AW := AW_at 1089 (by decide +kernel) (by decide +kernel)
theorem q_co_X7_fold : Cond.code yX7_fold cX7_fold 2 (some .int) ∈ AW := AW_at 1090 (by decide +kernel) (by decide +kernel)
theorem q_ml_X7_280 : Cond.methodLink RX7 280 yX7_foldNow ∈ AW := AW_at 1091 (by decide +kernel) (by decide +kernel)
theorem q_im_X7_foldNow : Cond.instanceMethod yX7_foldNow ∈ AW := AW_at 1093 (by decide +kernel) (by decide +kernel)
theorem q_co_X7_foldNow : Cond.code yX7_foldNow cX7_foldNow 2 (some .int) ∈ AW := AW_at 1094 (by decide +kernel) (by decide +kernel)
theorem q_ml_L_76 : Cond.methodLink RL 76 yX7_mend ∈ AW := AW_at 1095 (by decide +kernel) (by decide +kernel)
theorem q_im_X7_mend : Cond.instanceMethod yX7_mend ∈ AW := AW_at 1096 (by decide +kernel) (by decide +kernel)
theorem q_se_X7_mend : Cond.selects RX7 yX7_mend yX7_mend ∈ AW := AW_at 1097 (by decide +kernel) (by decide +kernel)
theorem q_co_X7_mend : Cond.code yX7_mend cX7_mend 2 (some .int) ∈ AW := AW_at 1098 (by decide +kernel) (by decide +kernel)
theorem q_ml_X7_289 : Cond.methodLink RX7 289 yX7_mendNow ∈ AW := AW_at 1099 (by decide +kernel) (by decide +kernel)
theorem q_im_X7_mendNow : Cond.instanceMethod yX7_mendNow ∈ AW := AW_at 1101 (by decide +kernel) (by decide +kernel)
theorem q_co_X7_mendNow : Cond.code yX7_mendNow cX7_mendNow 3 (some .int) ∈ AW := AW_at 1102 (by decide +kernel) (by decide +kernel)
theorem q_ml_X7_286 : Cond.methodLink RX7 286 yX7_mendSet ∈ AW := AW_at 1103 (by decide +kernel) (by decide +kernel)
theorem q_im_X7_mendSet : Cond.instanceMethod yX7_mendSet ∈ AW := AW_at 1105 (by decide +kernel) (by decide +kernel)
theorem q_co_X7_mendSet : Cond.code yX7_mendSet cX7_mendSet 5 (some .int) ∈ AW := AW_at 1106 (by decide +kernel) (by decide +kernel)
theorem q_ml_L_80 : Cond.methodLink RL 80 yX7_see ∈ AW := AW_at 1107 (by decide +kernel) (by decide +kernel)
theorem q_im_X7_see : Cond.instanceMethod yX7_see ∈ AW := AW_at 1108 (by decide +kernel) (by decide +kernel)
theorem q_se_X7_see : Cond.selects RX7 yX7_see yX7_see ∈ AW := AW_at 1109 (by decide +kernel) (by decide +kernel)
theorem q_co_X7_see : Cond.code yX7_see cX7_see 4 (some .int) ∈ AW := AW_at 1110 (by decide +kernel) (by decide +kernel)
theorem q_ml_L_84 : Cond.methodLink RL 84 yX7_forget ∈ AW := AW_at 1111 (by decide +kernel) (by decide +kernel)
theorem q_im_X7_forget : Cond.instanceMethod yX7_forget ∈ AW := AW_at 1112 (by decide +kernel) (by decide +kernel)
theorem q_se_X7_forget : Cond.selects RX7 yX7_forget yX7_forget ∈ AW := AW_at 1113 (by decide +kernel) (by decide +kernel)
theorem q_co_X7_forget : Cond.code yX7_forget cX7_forget 2 (some .int) ∈ AW := AW_at 1114 (by decide +kernel) (by decide +kernel)
theorem q_ml_L_88 : Cond.methodLink RL 88 yX7_drawn ∈ AW := AW_at 1115 (by decide +kernel) (by decide +kernel)
theorem q_im_X7_drawn : Cond.instanceMethod yX7_drawn ∈ AW := AW_at 1116 (by decide +kernel) (by decide +kernel)
theorem q_se_X7_drawn : Cond.selects RX7 yX7_drawn yX7_drawn ∈ AW := AW_at 1117 (by decide +kernel) (by decide +kernel)
theorem q_co_X7_drawn : Cond.code yX7_drawn cX7_drawn 4 (some .int) ∈ AW := AW_at 1118 (by decide +kernel) (by decide +kernel)
theorem q_ml_X7_311 : Cond.methodLink RX7 311 yX7_drawnNow ∈ AW := AW_at 1119 (by decide +kernel) (by decide +kernel)
theorem q_im_X7_drawnNow : Cond.instanceMethod yX7_drawnNow ∈ AW := AW_at 1121 (by decide +kernel) (by decide +kernel)
theorem q_co_X7_drawnNow : Cond.code yX7_drawnNow cX7_drawnNow 8 (some .int) ∈ AW := AW_at 1122 (by decide +kernel) (by decide +kernel)
theorem q_ml_X7_308 : Cond.methodLink RX7 308 yX7_draw ∈ AW := AW_at 1123 (by decide +kernel) (by decide +kernel)
theorem q_im_X7_draw : Cond.instanceMethod yX7_draw ∈ AW := AW_at 1125 (by decide +kernel) (by decide +kernel)
theorem q_co_X7_draw : Cond.code yX7_draw cX7_draw 2 (some .int) ∈ AW := AW_at 1126 (by decide +kernel) (by decide +kernel)
theorem q_ct_X7_296 : Cond.constantLong RX7 296 1103515245 ∈ AW := AW_at 1127 (by decide +kernel) (by decide +kernel)
theorem q_ct_X7_302 : Cond.constantLong RX7 302 12345 ∈ AW := AW_at 1128 (by decide +kernel) (by decide +kernel)
theorem q_ct_X7_304 : Cond.constantLong RX7 304 2147483647 ∈ AW := AW_at 1129 (by decide +kernel) (by decide +kernel)
theorem q_ct_X7_306 : Cond.constantLong RX7 306 65536 ∈ AW := AW_at 1130 (by decide +kernel) (by decide +kernel)
theorem q_ml_L_92 : Cond.methodLink RL 92 yX7_image ∈ AW := AW_at 1131 (by decide +kernel) (by decide +kernel)
theorem q_im_X7_image : Cond.instanceMethod yX7_image ∈ AW := AW_at 1132 (by decide +kernel) (by decide +kernel)
theorem q_se_X7_image : Cond.selects RX7 yX7_image yX7_image ∈ AW := AW_at 1133 (by decide +kernel) (by decide +kernel)
theorem q_co_X7_image : Cond.code yX7_image cX7_image 2 (some .int) ∈ AW := AW_at 1134 (by decide +kernel) (by decide +kernel)
theorem q_ml_L_96 : Cond.methodLink RL 96 yX7_restore ∈ AW := AW_at 1135 (by decide +kernel) (by decide +kernel)
theorem q_im_X7_restore : Cond.instanceMethod yX7_restore ∈ AW := AW_at 1136 (by decide +kernel) (by decide +kernel)
theorem q_se_X7_restore : Cond.selects RX7 yX7_restore yX7_restore ∈ AW := AW_at 1137 (by decide +kernel) (by decide +kernel)
theorem q_co_X7_restore : Cond.code yX7_restore cX7_restore 2 (some .int) ∈ AW := AW_at 1138 (by decide +kernel) (by decide +kernel)
theorem q_ml_L_100 : Cond.methodLink RL 100 yX7_count ∈ AW := AW_at 1139 (by decide +kernel) (by decide +kernel)
theorem q_im_X7_count : Cond.instanceMethod yX7_count ∈ AW := AW_at 1140 (by decide +kernel) (by decide +kernel)
theorem q_se_X7_count : Cond.selects RX7 yX7_count yX7_count ∈ AW := AW_at 1141 (by decide +kernel) (by decide +kernel)
theorem q_co_X7_count : Cond.code yX7_count cX7_count 2 (some .int) ∈ AW := AW_at 1142 (by decide +kernel) (by decide +kernel)
theorem q_ml_X7_326 : Cond.methodLink RX7 326 yX7_howMany ∈ AW := AW_at 1143 (by decide +kernel) (by decide +kernel)
theorem q_im_X7_howMany : Cond.instanceMethod yX7_howMany ∈ AW := AW_at 1145 (by decide +kernel) (by decide +kernel)
theorem q_co_X7_howMany : Cond.code yX7_howMany cX7_howMany 2 (some .int) ∈ AW := AW_at 1146 (by decide +kernel) (by decide +kernel)
theorem q_ml_X7_323 : Cond.methodLink RX7 323 yX7_ofGraph ∈ AW := AW_at 1147 (by decide +kernel) (by decide +kernel)
theorem q_im_X7_ofGraph : Cond.instanceMethod yX7_ofGraph ∈ AW := AW_at 1149 (by decide +kernel) (by decide +kernel)
theorem q_co_X7_ofGraph : Cond.code yX7_ofGraph cX7_ofGraph 2 (some .int) ∈ AW := AW_at 1150 (by decide +kernel) (by decide +kernel)
theorem q_ml_L_105 : Cond.methodLink RL 105 yX7_digest ∈ AW := AW_at 1151 (by decide +kernel) (by decide +kernel)
theorem q_im_X7_digest : Cond.instanceMethod yX7_digest ∈ AW := AW_at 1152 (by decide +kernel) (by decide +kernel)
theorem q_se_X7_digest : Cond.selects RX7 yX7_digest yX7_digest ∈ AW := AW_at 1153 (by decide +kernel) (by decide +kernel)
theorem q_co_X7_digest : Cond.code yX7_digest cX7_digest 2 (some .long) ∈ AW := AW_at 1154 (by decide +kernel) (by decide +kernel)
theorem q_ct_X7_338 : Cond.constantLong RX7 338 1381 ∈ AW := AW_at 1155 (by decide +kernel) (by decide +kernel)
theorem q_ml_X7_340 : Cond.methodLink RX7 340 yX7_mixGraph ∈ AW := AW_at 1156 (by decide +kernel) (by decide +kernel)
theorem q_im_X7_mixGraph : Cond.instanceMethod yX7_mixGraph ∈ AW := AW_at 1158 (by decide +kernel) (by decide +kernel)
theorem q_co_X7_mixGraph : Cond.code yX7_mixGraph cX7_mixGraph 3 none ∈ AW := AW_at 1159 (by decide +kernel) (by decide +kernel)
theorem q_ml_X7_334 : Cond.methodLink RX7 334 yX7_mix ∈ AW := AW_at 1160 (by decide +kernel) (by decide +kernel)
theorem q_im_X7_mix : Cond.instanceMethod yX7_mix ∈ AW := AW_at 1162 (by decide +kernel) (by decide +kernel)
theorem q_co_X7_mix : Cond.code yX7_mix cX7_mix 3 none ∈ AW := AW_at 1163 (by decide +kernel) (by decide +kernel)
theorem q_ct_X7_329 : Cond.constantLong RX7 329 31 ∈ AW := AW_at 1164 (by decide +kernel) (by decide +kernel)
theorem q_fl_J0_15 : Cond.fieldLink RJ0 15 "java/lang/String" "coder" "B" ∈ AW := AW_at 1165 (by decide +kernel) (by decide +kernel)
theorem q_fl_J0_9 : Cond.fieldLink RJ0 9 "java/lang/String" "value" "[B" ∈ AW := AW_at 1166 (by decide +kernel) (by decide +kernel)
def NL : List Cond := [Cond.methodLinkNest RX6 11 yX2_init RX6, Cond.methodLinkNest RX6 18 yX1_init RX6, Cond.methodLinkNest RX6 43 yX5_init RX6, Cond.methodLinkNest RX6 50 yX3_init RX6, Cond.methodLinkNest RX2 49 yX6_isKind RX6, Cond.methodLinkNest RX2 56 yX6_endsOf RX6, Cond.methodLinkNest RX0 90 yX6_endsOf RX6, Cond.methodLinkNest RX4 86 yX6_endsOf RX6, Cond.methodLinkNest RX0 67 yX6_isEnd RX6, Cond.methodLinkNest RX3 49 yX6_doesAt RX6, Cond.methodLinkNest RX5 37 yX6_doesAt RX6]
theorem NL_in : ∀ w ∈ NL, w ∈ lw_tbl := by decide +kernel
theorem q_nl_X6_11 : Cond.methodLinkNest RX6 11 yX2_init RX6 ∈ NL := List.mem_of_getElem? (i := 0) rfl
theorem q_nl_X6_18 : Cond.methodLinkNest RX6 18 yX1_init RX6 ∈ NL := List.mem_of_getElem? (i := 1) rfl
theorem q_nl_X6_43 : Cond.methodLinkNest RX6 43 yX5_init RX6 ∈ NL := List.mem_of_getElem? (i := 2) rfl
theorem q_nl_X6_50 : Cond.methodLinkNest RX6 50 yX3_init RX6 ∈ NL := List.mem_of_getElem? (i := 3) rfl
theorem q_nl_X2_49 : Cond.methodLinkNest RX2 49 yX6_isKind RX6 ∈ NL := List.mem_of_getElem? (i := 4) rfl
theorem q_nl_X2_56 : Cond.methodLinkNest RX2 56 yX6_endsOf RX6 ∈ NL := List.mem_of_getElem? (i := 5) rfl
theorem q_nl_X0_90 : Cond.methodLinkNest RX0 90 yX6_endsOf RX6 ∈ NL := List.mem_of_getElem? (i := 6) rfl
theorem q_nl_X4_86 : Cond.methodLinkNest RX4 86 yX6_endsOf RX6 ∈ NL := List.mem_of_getElem? (i := 7) rfl
theorem q_nl_X0_67 : Cond.methodLinkNest RX0 67 yX6_isEnd RX6 ∈ NL := List.mem_of_getElem? (i := 8) rfl
theorem q_nl_X3_49 : Cond.methodLinkNest RX3 49 yX6_doesAt RX6 ∈ NL := List.mem_of_getElem? (i := 9) rfl
theorem q_nl_X5_37 : Cond.methodLinkNest RX5 37 yX6_doesAt RX6 ∈ NL := List.mem_of_getElem? (i := 10) rfl
theorem iX0 : ∀ w ∈ u_ws RX0 TX0 13, w ∈ AW := by decide +kernel
theorem iX1 : ∀ w ∈ u_ws RX1 TX1 4, w ∈ AW := by decide +kernel
theorem iX2 : ∀ w ∈ u_ws RX2 TX2 4, w ∈ AW := by decide +kernel
theorem iX3 : ∀ w ∈ u_ws RX3 TX3 4, w ∈ AW := by decide +kernel
theorem iX4 : ∀ w ∈ u_ws RX4 TX4 9, w ∈ AW := by decide +kernel
theorem iX5 : ∀ w ∈ u_ws RX5 TX5 3, w ∈ AW := by decide +kernel
theorem iX6 : ∀ w ∈ u_ws RX6 TX6 13, w ∈ AW := by decide +kernel
theorem iX7 : ∀ w ∈ u_ws RX7 TX7 55, w ∈ AW := by decide +kernel
end
section
theorem dX0_init_0 : decode cX0_init 0 = .ok (.aload_n 0, 1) := by decide +kernel
theorem dX0_init_1 : decode cX0_init 1 = .ok (.invokespecial 3, 3) := by decide +kernel
theorem dX0_init_4 : decode cX0_init 4 = .ok (.aload_n 0, 1) := by decide +kernel
theorem dX0_init_5 : decode cX0_init 5 = .ok (.bipush 16, 2) := by decide +kernel
theorem dX0_init_7 : decode cX0_init 7 = .ok (.newarray .int, 2) := by decide +kernel
theorem dX0_init_9 : decode cX0_init 9 = .ok (.putfield 9, 3) := by decide +kernel
theorem dX0_init_12 : decode cX0_init 12 = .ok (.aload_n 0, 1) := by decide +kernel
theorem dX0_init_13 : decode cX0_init 13 = .ok (.bipush 16, 2) := by decide +kernel
theorem dX0_init_15 : decode cX0_init 15 = .ok (.newarray .int, 2) := by decide +kernel
theorem dX0_init_17 : decode cX0_init 17 = .ok (.putfield 15, 3) := by decide +kernel
theorem dX0_init_20 : decode cX0_init 20 = .ok (.aload_n 0, 1) := by decide +kernel
theorem dX0_init_21 : decode cX0_init 21 = .ok (.bipush 8, 2) := by decide +kernel
theorem dX0_init_23 : decode cX0_init 23 = .ok (.newarray .int, 2) := by decide +kernel
theorem dX0_init_25 : decode cX0_init 25 = .ok (.putfield 18, 3) := by decide +kernel
theorem dX0_init_28 : decode cX0_init 28 = .ok (.aload_n 0, 1) := by decide +kernel
theorem dX0_init_29 : decode cX0_init 29 = .ok (.bipush 8, 2) := by decide +kernel
theorem dX0_init_31 : decode cX0_init 31 = .ok (.newarray .int, 2) := by decide +kernel
theorem dX0_init_33 : decode cX0_init 33 = .ok (.putfield 21, 3) := by decide +kernel
theorem dX0_init_36 : decode cX0_init 36 = .ok (.aload_n 0, 1) := by decide +kernel
theorem dX0_init_37 : decode cX0_init 37 = .ok (.bipush 8, 2) := by decide +kernel
theorem dX0_init_39 : decode cX0_init 39 = .ok (.newarray .int, 2) := by decide +kernel
theorem dX0_init_41 : decode cX0_init 41 = .ok (.putfield 24, 3) := by decide +kernel
theorem dX0_init_44 : decode cX0_init 44 = .ok (.aload_n 0, 1) := by decide +kernel
theorem dX0_init_45 : decode cX0_init 45 = .ok (.aload_n 1, 1) := by decide +kernel
theorem dX0_init_46 : decode cX0_init 46 = .ok (.putfield 27, 3) := by decide +kernel
theorem dX0_init_49 : decode cX0_init 49 = .ok (.return_, 1) := by decide +kernel
theorem dX0_look_0 : decode cX0_look 0 = .ok (.aload_n 0, 1) := by decide +kernel
theorem dX0_look_1 : decode cX0_look 1 = .ok (.iload_n 1, 1) := by decide +kernel
theorem dX0_look_2 : decode cX0_look 2 = .ok (.invokevirtual 31, 3) := by decide +kernel
theorem dX0_look_5 : decode cX0_look 5 = .ok (.aload_n 0, 1) := by decide +kernel
theorem dX0_look_6 : decode cX0_look 6 = .ok (.iconst 0, 1) := by decide +kernel
theorem dX0_look_7 : decode cX0_look 7 = .ok (.putfield 35, 3) := by decide +kernel
theorem dX0_look_10 : decode cX0_look 10 = .ok (.aload_n 0, 1) := by decide +kernel
theorem dX0_look_11 : decode cX0_look 11 = .ok (.iconst 0, 1) := by decide +kernel
theorem dX0_look_12 : decode cX0_look 12 = .ok (.putfield 39, 3) := by decide +kernel
theorem dX0_look_15 : decode cX0_look 15 = .ok (.aload_n 0, 1) := by decide +kernel
theorem dX0_look_16 : decode cX0_look 16 = .ok (.iconst 0, 1) := by decide +kernel
theorem dX0_look_17 : decode cX0_look 17 = .ok (.iconst 0, 1) := by decide +kernel
theorem dX0_look_18 : decode cX0_look 18 = .ok (.invokevirtual 42, 3) := by decide +kernel
theorem dX0_look_21 : decode cX0_look 21 = .ok (.aload_n 0, 1) := by decide +kernel
theorem dX0_look_22 : decode cX0_look 22 = .ok (.getfield 21, 3) := by decide +kernel
theorem dX0_look_25 : decode cX0_look 25 = .ok (.iconst (-1), 1) := by decide +kernel
theorem dX0_look_26 : decode cX0_look 26 = .ok (.invokestatic 46, 3) := by decide +kernel
theorem dX0_look_29 : decode cX0_look 29 = .ok (.iconst 0, 1) := by decide +kernel
theorem dX0_look_30 : decode cX0_look 30 = .ok (.istore_n 2, 1) := by decide +kernel
theorem dX0_look_31 : decode cX0_look 31 = .ok (.iload_n 2, 1) := by decide +kernel
theorem dX0_look_32 : decode cX0_look 32 = .ok (.aload_n 0, 1) := by decide +kernel
theorem dX0_look_33 : decode cX0_look 33 = .ok (.getfield 39, 3) := by decide +kernel
theorem dX0_look_36 : decode cX0_look 36 = .ok (.if_icmp .ge 28, 3) := by decide +kernel
theorem dX0_look_39 : decode cX0_look 39 = .ok (.aload_n 0, 1) := by decide +kernel
theorem dX0_look_40 : decode cX0_look 40 = .ok (.getfield 21, 3) := by decide +kernel
theorem dX0_look_43 : decode cX0_look 43 = .ok (.aload_n 0, 1) := by decide +kernel
theorem dX0_look_44 : decode cX0_look 44 = .ok (.getfield 18, 3) := by decide +kernel
theorem dX0_look_47 : decode cX0_look 47 = .ok (.iload_n 2, 1) := by decide +kernel
theorem dX0_look_48 : decode cX0_look 48 = .ok (.iaload, 1) := by decide +kernel
theorem dX0_look_49 : decode cX0_look 49 = .ok (.aload_n 0, 1) := by decide +kernel
theorem dX0_look_50 : decode cX0_look 50 = .ok (.getfield 39, 3) := by decide +kernel
theorem dX0_look_53 : decode cX0_look 53 = .ok (.iconst 1, 1) := by decide +kernel
theorem dX0_look_54 : decode cX0_look 54 = .ok (.isub, 1) := by decide +kernel
theorem dX0_look_55 : decode cX0_look 55 = .ok (.iload_n 2, 1) := by decide +kernel
theorem dX0_look_56 : decode cX0_look 56 = .ok (.isub, 1) := by decide +kernel
theorem dX0_look_57 : decode cX0_look 57 = .ok (.iastore, 1) := by decide +kernel
theorem dX0_look_58 : decode cX0_look 58 = .ok (.iinc 2 1, 3) := by decide +kernel
theorem dX0_look_61 : decode cX0_look 61 = .ok (.goto (-30), 3) := by decide +kernel
theorem dX0_look_64 : decode cX0_look 64 = .ok (.aload_n 0, 1) := by decide +kernel
theorem dX0_look_65 : decode cX0_look 65 = .ok (.invokevirtual 52, 3) := by decide +kernel
theorem dX0_look_68 : decode cX0_look 68 = .ok (.aload_n 0, 1) := by decide +kernel
theorem dX0_look_69 : decode cX0_look 69 = .ok (.invokevirtual 55, 3) := by decide +kernel
theorem dX0_look_72 : decode cX0_look 72 = .ok (.return_, 1) := by decide +kernel
theorem dX0_folds_0 : decode cX0_folds 0 = .ok (.aload_n 0, 1) := by decide +kernel
theorem dX0_folds_1 : decode cX0_folds 1 = .ok (.getfield 39, 3) := by decide +kernel
theorem dX0_folds_4 : decode cX0_folds 4 = .ok (.ifCond .le 14, 3) := by decide +kernel
theorem dX0_folds_7 : decode cX0_folds 7 = .ok (.aload_n 0, 1) := by decide +kernel
theorem dX0_folds_8 : decode cX0_folds 8 = .ok (.getfield 58, 3) := by decide +kernel
theorem dX0_folds_11 : decode cX0_folds 11 = .ok (.ifCond .ne 7, 3) := by decide +kernel
theorem dX0_folds_14 : decode cX0_folds 14 = .ok (.iconst 1, 1) := by decide +kernel
theorem dX0_folds_15 : decode cX0_folds 15 = .ok (.goto 4, 3) := by decide +kernel
theorem dX0_folds_18 : decode cX0_folds 18 = .ok (.iconst 0, 1) := by decide +kernel
theorem dX0_folds_19 : decode cX0_folds 19 = .ok (.ireturn, 1) := by decide +kernel
theorem dX0_nodeAt_0 : decode cX0_nodeAt 0 = .ok (.iload_n 1, 1) := by decide +kernel
theorem dX0_nodeAt_1 : decode cX0_nodeAt 1 = .ok (.ifCond .lt 27, 3) := by decide +kernel
theorem dX0_nodeAt_4 : decode cX0_nodeAt 4 = .ok (.iload_n 1, 1) := by decide +kernel
theorem dX0_nodeAt_5 : decode cX0_nodeAt 5 = .ok (.aload_n 0, 1) := by decide +kernel
theorem dX0_nodeAt_6 : decode cX0_nodeAt 6 = .ok (.getfield 39, 3) := by decide +kernel
theorem dX0_nodeAt_9 : decode cX0_nodeAt 9 = .ok (.if_icmp .ge 19, 3) := by decide +kernel
theorem dX0_nodeAt_12 : decode cX0_nodeAt 12 = .ok (.aload_n 0, 1) := by decide +kernel
theorem dX0_nodeAt_13 : decode cX0_nodeAt 13 = .ok (.getfield 18, 3) := by decide +kernel
theorem dX0_nodeAt_16 : decode cX0_nodeAt 16 = .ok (.aload_n 0, 1) := by decide +kernel
theorem dX0_nodeAt_17 : decode cX0_nodeAt 17 = .ok (.getfield 39, 3) := by decide +kernel
theorem dX0_nodeAt_20 : decode cX0_nodeAt 20 = .ok (.iconst 1, 1) := by decide +kernel
theorem dX0_nodeAt_21 : decode cX0_nodeAt 21 = .ok (.isub, 1) := by decide +kernel
theorem dX0_nodeAt_22 : decode cX0_nodeAt 22 = .ok (.iload_n 1, 1) := by decide +kernel
theorem dX0_nodeAt_23 : decode cX0_nodeAt 23 = .ok (.isub, 1) := by decide +kernel
theorem dX0_nodeAt_24 : decode cX0_nodeAt 24 = .ok (.iaload, 1) := by decide +kernel
theorem dX0_nodeAt_25 : decode cX0_nodeAt 25 = .ok (.goto 4, 3) := by decide +kernel
theorem dX0_nodeAt_28 : decode cX0_nodeAt 28 = .ok (.iconst (-1), 1) := by decide +kernel
theorem dX0_nodeAt_29 : decode cX0_nodeAt 29 = .ok (.ireturn, 1) := by decide +kernel
theorem dX0_placeOf_0 : decode cX0_placeOf 0 = .ok (.aload_n 0, 1) := by decide +kernel
theorem dX0_placeOf_1 : decode cX0_placeOf 1 = .ok (.getfield 27, 3) := by decide +kernel
theorem dX0_placeOf_4 : decode cX0_placeOf 4 = .ok (.iload_n 1, 1) := by decide +kernel
theorem dX0_placeOf_5 : decode cX0_placeOf 5 = .ok (.invokevirtual 61, 3) := by decide +kernel
theorem dX0_placeOf_8 : decode cX0_placeOf 8 = .ok (.ifCond .eq 12, 3) := by decide +kernel
theorem dX0_placeOf_11 : decode cX0_placeOf 11 = .ok (.aload_n 0, 1) := by decide +kernel
theorem dX0_placeOf_12 : decode cX0_placeOf 12 = .ok (.getfield 21, 3) := by decide +kernel
theorem dX0_placeOf_15 : decode cX0_placeOf 15 = .ok (.iload_n 1, 1) := by decide +kernel
theorem dX0_placeOf_16 : decode cX0_placeOf 16 = .ok (.iaload, 1) := by decide +kernel
theorem dX0_placeOf_17 : decode cX0_placeOf 17 = .ok (.goto 4, 3) := by decide +kernel
theorem dX0_placeOf_20 : decode cX0_placeOf 20 = .ok (.iconst (-1), 1) := by decide +kernel
theorem dX0_placeOf_21 : decode cX0_placeOf 21 = .ok (.ireturn, 1) := by decide +kernel
theorem dX0_stateOf_0 : decode cX0_stateOf 0 = .ok (.aload_n 0, 1) := by decide +kernel
theorem dX0_stateOf_1 : decode cX0_stateOf 1 = .ok (.getfield 27, 3) := by decide +kernel
theorem dX0_stateOf_4 : decode cX0_stateOf 4 = .ok (.iload_n 1, 1) := by decide +kernel
theorem dX0_stateOf_5 : decode cX0_stateOf 5 = .ok (.invokevirtual 61, 3) := by decide +kernel
theorem dX0_stateOf_8 : decode cX0_stateOf 8 = .ok (.ifCond .eq 23, 3) := by decide +kernel
theorem dX0_stateOf_11 : decode cX0_stateOf 11 = .ok (.iload_n 2, 1) := by decide +kernel
theorem dX0_stateOf_12 : decode cX0_stateOf 12 = .ok (.invokestatic 67, 3) := by decide +kernel
theorem dX0_stateOf_15 : decode cX0_stateOf 15 = .ok (.ifCond .eq 16, 3) := by decide +kernel
theorem dX0_stateOf_18 : decode cX0_stateOf 18 = .ok (.aload_n 0, 1) := by decide +kernel
theorem dX0_stateOf_19 : decode cX0_stateOf 19 = .ok (.getfield 15, 3) := by decide +kernel
theorem dX0_stateOf_22 : decode cX0_stateOf 22 = .ok (.iconst 2, 1) := by decide +kernel
theorem dX0_stateOf_23 : decode cX0_stateOf 23 = .ok (.iload_n 1, 1) := by decide +kernel
theorem dX0_stateOf_24 : decode cX0_stateOf 24 = .ok (.imul, 1) := by decide +kernel
theorem dX0_stateOf_25 : decode cX0_stateOf 25 = .ok (.iload_n 2, 1) := by decide +kernel
theorem dX0_stateOf_26 : decode cX0_stateOf 26 = .ok (.iadd, 1) := by decide +kernel
theorem dX0_stateOf_27 : decode cX0_stateOf 27 = .ok (.iaload, 1) := by decide +kernel
theorem dX0_stateOf_28 : decode cX0_stateOf 28 = .ok (.goto 4, 3) := by decide +kernel
theorem dX0_stateOf_31 : decode cX0_stateOf 31 = .ok (.iconst (-1), 1) := by decide +kernel
theorem dX0_stateOf_32 : decode cX0_stateOf 32 = .ok (.ireturn, 1) := by decide +kernel
theorem dX0_isHead_0 : decode cX0_isHead 0 = .ok (.aload_n 0, 1) := by decide +kernel
theorem dX0_isHead_1 : decode cX0_isHead 1 = .ok (.getfield 27, 3) := by decide +kernel
theorem dX0_isHead_4 : decode cX0_isHead 4 = .ok (.iload_n 1, 1) := by decide +kernel
theorem dX0_isHead_5 : decode cX0_isHead 5 = .ok (.invokevirtual 61, 3) := by decide +kernel
theorem dX0_isHead_8 : decode cX0_isHead 8 = .ok (.ifCond .eq 19, 3) := by decide +kernel
theorem dX0_isHead_11 : decode cX0_isHead 11 = .ok (.aload_n 0, 1) := by decide +kernel
theorem dX0_isHead_12 : decode cX0_isHead 12 = .ok (.getfield 70, 3) := by decide +kernel
theorem dX0_isHead_15 : decode cX0_isHead 15 = .ok (.iload_n 1, 1) := by decide +kernel
theorem dX0_isHead_16 : decode cX0_isHead 16 = .ok (.ishr, 1) := by decide +kernel
theorem dX0_isHead_17 : decode cX0_isHead 17 = .ok (.iconst 1, 1) := by decide +kernel
theorem dX0_isHead_18 : decode cX0_isHead 18 = .ok (.iand, 1) := by decide +kernel
theorem dX0_isHead_19 : decode cX0_isHead 19 = .ok (.iconst 1, 1) := by decide +kernel
theorem dX0_isHead_20 : decode cX0_isHead 20 = .ok (.if_icmp .ne 7, 3) := by decide +kernel
theorem dX0_isHead_23 : decode cX0_isHead 23 = .ok (.iconst 1, 1) := by decide +kernel
theorem dX0_isHead_24 : decode cX0_isHead 24 = .ok (.goto 4, 3) := by decide +kernel
theorem dX0_isHead_27 : decode cX0_isHead 27 = .ok (.iconst 0, 1) := by decide +kernel
theorem dX0_isHead_28 : decode cX0_isHead 28 = .ok (.ireturn, 1) := by decide +kernel
theorem dX0_isMerge_0 : decode cX0_isMerge 0 = .ok (.aload_n 0, 1) := by decide +kernel
theorem dX0_isMerge_1 : decode cX0_isMerge 1 = .ok (.getfield 27, 3) := by decide +kernel
theorem dX0_isMerge_4 : decode cX0_isMerge 4 = .ok (.iload_n 1, 1) := by decide +kernel
theorem dX0_isMerge_5 : decode cX0_isMerge 5 = .ok (.invokevirtual 61, 3) := by decide +kernel
theorem dX0_isMerge_8 : decode cX0_isMerge 8 = .ok (.ifCond .eq 19, 3) := by decide +kernel
theorem dX0_isMerge_11 : decode cX0_isMerge 11 = .ok (.aload_n 0, 1) := by decide +kernel
theorem dX0_isMerge_12 : decode cX0_isMerge 12 = .ok (.getfield 73, 3) := by decide +kernel
theorem dX0_isMerge_15 : decode cX0_isMerge 15 = .ok (.iload_n 1, 1) := by decide +kernel
theorem dX0_isMerge_16 : decode cX0_isMerge 16 = .ok (.ishr, 1) := by decide +kernel
theorem dX0_isMerge_17 : decode cX0_isMerge 17 = .ok (.iconst 1, 1) := by decide +kernel
theorem dX0_isMerge_18 : decode cX0_isMerge 18 = .ok (.iand, 1) := by decide +kernel
theorem dX0_isMerge_19 : decode cX0_isMerge 19 = .ok (.iconst 1, 1) := by decide +kernel
theorem dX0_isMerge_20 : decode cX0_isMerge 20 = .ok (.if_icmp .ne 7, 3) := by decide +kernel
theorem dX0_isMerge_23 : decode cX0_isMerge 23 = .ok (.iconst 1, 1) := by decide +kernel
theorem dX0_isMerge_24 : decode cX0_isMerge 24 = .ok (.goto 4, 3) := by decide +kernel
theorem dX0_isMerge_27 : decode cX0_isMerge 27 = .ok (.iconst 0, 1) := by decide +kernel
theorem dX0_isMerge_28 : decode cX0_isMerge 28 = .ok (.ireturn, 1) := by decide +kernel
theorem dX0_rules_0 : decode cX0_rules 0 = .ok (.aload_n 0, 1) := by decide +kernel
theorem dX0_rules_1 : decode cX0_rules 1 = .ok (.getfield 27, 3) := by decide +kernel
theorem dX0_rules_4 : decode cX0_rules 4 = .ok (.iload_n 1, 1) := by decide +kernel
theorem dX0_rules_5 : decode cX0_rules 5 = .ok (.invokevirtual 61, 3) := by decide +kernel
theorem dX0_rules_8 : decode cX0_rules 8 = .ok (.ifCond .eq 32, 3) := by decide +kernel
theorem dX0_rules_11 : decode cX0_rules 11 = .ok (.aload_n 0, 1) := by decide +kernel
theorem dX0_rules_12 : decode cX0_rules 12 = .ok (.getfield 27, 3) := by decide +kernel
theorem dX0_rules_15 : decode cX0_rules 15 = .ok (.iload_n 2, 1) := by decide +kernel
theorem dX0_rules_16 : decode cX0_rules 16 = .ok (.invokevirtual 61, 3) := by decide +kernel
theorem dX0_rules_19 : decode cX0_rules 19 = .ok (.ifCond .eq 21, 3) := by decide +kernel
theorem dX0_rules_22 : decode cX0_rules 22 = .ok (.aload_n 0, 1) := by decide +kernel
theorem dX0_rules_23 : decode cX0_rules 23 = .ok (.getfield 24, 3) := by decide +kernel
theorem dX0_rules_26 : decode cX0_rules 26 = .ok (.iload_n 2, 1) := by decide +kernel
theorem dX0_rules_27 : decode cX0_rules 27 = .ok (.iaload, 1) := by decide +kernel
theorem dX0_rules_28 : decode cX0_rules 28 = .ok (.iload_n 1, 1) := by decide +kernel
theorem dX0_rules_29 : decode cX0_rules 29 = .ok (.ishr, 1) := by decide +kernel
theorem dX0_rules_30 : decode cX0_rules 30 = .ok (.iconst 1, 1) := by decide +kernel
theorem dX0_rules_31 : decode cX0_rules 31 = .ok (.iand, 1) := by decide +kernel
theorem dX0_rules_32 : decode cX0_rules 32 = .ok (.iconst 1, 1) := by decide +kernel
theorem dX0_rules_33 : decode cX0_rules 33 = .ok (.if_icmp .ne 7, 3) := by decide +kernel
theorem dX0_rules_36 : decode cX0_rules 36 = .ok (.iconst 1, 1) := by decide +kernel
theorem dX0_rules_37 : decode cX0_rules 37 = .ok (.goto 4, 3) := by decide +kernel
theorem dX0_rules_40 : decode cX0_rules 40 = .ok (.iconst 0, 1) := by decide +kernel
theorem dX0_rules_41 : decode cX0_rules 41 = .ok (.ireturn, 1) := by decide +kernel
theorem dX0_ruledBy_0 : decode cX0_ruledBy 0 = .ok (.iconst 0, 1) := by decide +kernel
theorem dX0_ruledBy_1 : decode cX0_ruledBy 1 = .ok (.istore_n 2, 1) := by decide +kernel
theorem dX0_ruledBy_2 : decode cX0_ruledBy 2 = .ok (.iconst 0, 1) := by decide +kernel
theorem dX0_ruledBy_3 : decode cX0_ruledBy 3 = .ok (.istore_n 3, 1) := by decide +kernel
theorem dX0_ruledBy_4 : decode cX0_ruledBy 4 = .ok (.iload_n 3, 1) := by decide +kernel
theorem dX0_ruledBy_5 : decode cX0_ruledBy 5 = .ok (.aload_n 0, 1) := by decide +kernel
theorem dX0_ruledBy_6 : decode cX0_ruledBy 6 = .ok (.getfield 27, 3) := by decide +kernel
theorem dX0_ruledBy_9 : decode cX0_ruledBy 9 = .ok (.getfield 76, 3) := by decide +kernel
theorem dX0_ruledBy_12 : decode cX0_ruledBy 12 = .ok (.if_icmp .ge 26, 3) := by decide +kernel
theorem dX0_ruledBy_15 : decode cX0_ruledBy 15 = .ok (.iload_n 2, 1) := by decide +kernel
theorem dX0_ruledBy_16 : decode cX0_ruledBy 16 = .ok (.aload_n 0, 1) := by decide +kernel
theorem dX0_ruledBy_17 : decode cX0_ruledBy 17 = .ok (.iload_n 1, 1) := by decide +kernel
theorem dX0_ruledBy_18 : decode cX0_ruledBy 18 = .ok (.iload_n 3, 1) := by decide +kernel
theorem dX0_ruledBy_19 : decode cX0_ruledBy 19 = .ok (.invokevirtual 79, 3) := by decide +kernel
theorem dX0_ruledBy_22 : decode cX0_ruledBy 22 = .ok (.ifCond .eq 7, 3) := by decide +kernel
theorem dX0_ruledBy_25 : decode cX0_ruledBy 25 = .ok (.iconst 1, 1) := by decide +kernel
theorem dX0_ruledBy_26 : decode cX0_ruledBy 26 = .ok (.goto 4, 3) := by decide +kernel
theorem dX0_ruledBy_29 : decode cX0_ruledBy 29 = .ok (.iconst 0, 1) := by decide +kernel
theorem dX0_ruledBy_30 : decode cX0_ruledBy 30 = .ok (.iadd, 1) := by decide +kernel
theorem dX0_ruledBy_31 : decode cX0_ruledBy 31 = .ok (.istore_n 2, 1) := by decide +kernel
theorem dX0_ruledBy_32 : decode cX0_ruledBy 32 = .ok (.iinc 3 1, 3) := by decide +kernel
theorem dX0_ruledBy_35 : decode cX0_ruledBy 35 = .ok (.goto (-31), 3) := by decide +kernel
theorem dX0_ruledBy_38 : decode cX0_ruledBy 38 = .ok (.iload_n 2, 1) := by decide +kernel
theorem dX0_ruledBy_39 : decode cX0_ruledBy 39 = .ok (.ireturn, 1) := by decide +kernel
theorem dX0_lordOf_0 : decode cX0_lordOf 0 = .ok (.aload_n 0, 1) := by decide +kernel
theorem dX0_lordOf_1 : decode cX0_lordOf 1 = .ok (.getfield 27, 3) := by decide +kernel
theorem dX0_lordOf_4 : decode cX0_lordOf 4 = .ok (.iload_n 1, 1) := by decide +kernel
theorem dX0_lordOf_5 : decode cX0_lordOf 5 = .ok (.invokevirtual 61, 3) := by decide +kernel
theorem dX0_lordOf_8 : decode cX0_lordOf 8 = .ok (.ifCond .ne 5, 3) := by decide +kernel
theorem dX0_lordOf_11 : decode cX0_lordOf 11 = .ok (.iconst (-1), 1) := by decide +kernel
theorem dX0_lordOf_12 : decode cX0_lordOf 12 = .ok (.ireturn, 1) := by decide +kernel
theorem dX0_lordOf_13 : decode cX0_lordOf 13 = .ok (.aload_n 0, 1) := by decide +kernel
theorem dX0_lordOf_14 : decode cX0_lordOf 14 = .ok (.getfield 24, 3) := by decide +kernel
theorem dX0_lordOf_17 : decode cX0_lordOf 17 = .ok (.iload_n 1, 1) := by decide +kernel
theorem dX0_lordOf_18 : decode cX0_lordOf 18 = .ok (.iaload, 1) := by decide +kernel
theorem dX0_lordOf_19 : decode cX0_lordOf 19 = .ok (.iconst 1, 1) := by decide +kernel
theorem dX0_lordOf_20 : decode cX0_lordOf 20 = .ok (.iload_n 1, 1) := by decide +kernel
theorem dX0_lordOf_21 : decode cX0_lordOf 21 = .ok (.ishl, 1) := by decide +kernel
theorem dX0_lordOf_22 : decode cX0_lordOf 22 = .ok (.iconst (-1), 1) := by decide +kernel
theorem dX0_lordOf_23 : decode cX0_lordOf 23 = .ok (.ixor, 1) := by decide +kernel
theorem dX0_lordOf_24 : decode cX0_lordOf 24 = .ok (.iand, 1) := by decide +kernel
theorem dX0_lordOf_25 : decode cX0_lordOf 25 = .ok (.istore_n 2, 1) := by decide +kernel
theorem dX0_lordOf_26 : decode cX0_lordOf 26 = .ok (.iconst 0, 1) := by decide +kernel
theorem dX0_lordOf_27 : decode cX0_lordOf 27 = .ok (.istore_n 3, 1) := by decide +kernel
theorem dX0_lordOf_28 : decode cX0_lordOf 28 = .ok (.iload_n 3, 1) := by decide +kernel
theorem dX0_lordOf_29 : decode cX0_lordOf 29 = .ok (.aload_n 0, 1) := by decide +kernel
theorem dX0_lordOf_30 : decode cX0_lordOf 30 = .ok (.getfield 27, 3) := by decide +kernel
theorem dX0_lordOf_33 : decode cX0_lordOf 33 = .ok (.getfield 76, 3) := by decide +kernel
theorem dX0_lordOf_36 : decode cX0_lordOf 36 = .ok (.if_icmp .ge 25, 3) := by decide +kernel
theorem dX0_lordOf_39 : decode cX0_lordOf 39 = .ok (.iload_n 2, 1) := by decide +kernel
theorem dX0_lordOf_40 : decode cX0_lordOf 40 = .ok (.ifCond .eq 15, 3) := by decide +kernel
theorem dX0_lordOf_43 : decode cX0_lordOf 43 = .ok (.aload_n 0, 1) := by decide +kernel
theorem dX0_lordOf_44 : decode cX0_lordOf 44 = .ok (.getfield 24, 3) := by decide +kernel
theorem dX0_lordOf_47 : decode cX0_lordOf 47 = .ok (.iload_n 3, 1) := by decide +kernel
theorem dX0_lordOf_48 : decode cX0_lordOf 48 = .ok (.iaload, 1) := by decide +kernel
theorem dX0_lordOf_49 : decode cX0_lordOf 49 = .ok (.iload_n 2, 1) := by decide +kernel
theorem dX0_lordOf_50 : decode cX0_lordOf 50 = .ok (.if_icmp .ne 5, 3) := by decide +kernel
theorem dX0_lordOf_53 : decode cX0_lordOf 53 = .ok (.iload_n 3, 1) := by decide +kernel
theorem dX0_lordOf_54 : decode cX0_lordOf 54 = .ok (.ireturn, 1) := by decide +kernel
theorem dX0_lordOf_55 : decode cX0_lordOf 55 = .ok (.iinc 3 1, 3) := by decide +kernel
theorem dX0_lordOf_58 : decode cX0_lordOf 58 = .ok (.goto (-30), 3) := by decide +kernel
theorem dX0_lordOf_61 : decode cX0_lordOf 61 = .ok (.iconst (-1), 1) := by decide +kernel
theorem dX0_lordOf_62 : decode cX0_lordOf 62 = .ok (.ireturn, 1) := by decide +kernel
theorem dX0_findTargets_0 : decode cX0_findTargets 0 = .ok (.iconst 0, 1) := by decide +kernel
theorem dX0_findTargets_1 : decode cX0_findTargets 1 = .ok (.istore_n 2, 1) := by decide +kernel
theorem dX0_findTargets_2 : decode cX0_findTargets 2 = .ok (.iload_n 2, 1) := by decide +kernel
theorem dX0_findTargets_3 : decode cX0_findTargets 3 = .ok (.bipush 16, 2) := by decide +kernel
theorem dX0_findTargets_5 : decode cX0_findTargets 5 = .ok (.if_icmp .ge 99, 3) := by decide +kernel
theorem dX0_findTargets_8 : decode cX0_findTargets 8 = .ok (.iload_n 2, 1) := by decide +kernel
theorem dX0_findTargets_9 : decode cX0_findTargets 9 = .ok (.iconst 2, 1) := by decide +kernel
theorem dX0_findTargets_10 : decode cX0_findTargets 10 = .ok (.idiv, 1) := by decide +kernel
theorem dX0_findTargets_11 : decode cX0_findTargets 11 = .ok (.istore_n 3, 1) := by decide +kernel
theorem dX0_findTargets_12 : decode cX0_findTargets 12 = .ok (.aload_n 0, 1) := by decide +kernel
theorem dX0_findTargets_13 : decode cX0_findTargets 13 = .ok (.getfield 27, 3) := by decide +kernel
theorem dX0_findTargets_16 : decode cX0_findTargets 16 = .ok (.iload_n 3, 1) := by decide +kernel
theorem dX0_findTargets_17 : decode cX0_findTargets 17 = .ok (.iload_n 2, 1) := by decide +kernel
theorem dX0_findTargets_18 : decode cX0_findTargets 18 = .ok (.iconst 2, 1) := by decide +kernel
theorem dX0_findTargets_19 : decode cX0_findTargets 19 = .ok (.irem, 1) := by decide +kernel
theorem dX0_findTargets_20 : decode cX0_findTargets 20 = .ok (.invokevirtual 83, 3) := by decide +kernel
theorem dX0_findTargets_23 : decode cX0_findTargets 23 = .ok (.istore 4, 2) := by decide +kernel
theorem dX0_findTargets_25 : decode cX0_findTargets 25 = .ok (.aload_n 0, 1) := by decide +kernel
theorem dX0_findTargets_26 : decode cX0_findTargets 26 = .ok (.getfield 27, 3) := by decide +kernel
theorem dX0_findTargets_29 : decode cX0_findTargets 29 = .ok (.iload_n 3, 1) := by decide +kernel
theorem dX0_findTargets_30 : decode cX0_findTargets 30 = .ok (.invokevirtual 61, 3) := by decide +kernel
theorem dX0_findTargets_33 : decode cX0_findTargets 33 = .ok (.ifCond .eq 45, 3) := by decide +kernel
theorem dX0_findTargets_36 : decode cX0_findTargets 36 = .ok (.aload_n 0, 1) := by decide +kernel
theorem dX0_findTargets_37 : decode cX0_findTargets 37 = .ok (.getfield 27, 3) := by decide +kernel
theorem dX0_findTargets_40 : decode cX0_findTargets 40 = .ok (.iload 4, 2) := by decide +kernel
theorem dX0_findTargets_42 : decode cX0_findTargets 42 = .ok (.invokevirtual 61, 3) := by decide +kernel
theorem dX0_findTargets_45 : decode cX0_findTargets 45 = .ok (.ifCond .eq 33, 3) := by decide +kernel
theorem dX0_findTargets_48 : decode cX0_findTargets 48 = .ok (.iload_n 2, 1) := by decide +kernel
theorem dX0_findTargets_49 : decode cX0_findTargets 49 = .ok (.iconst 2, 1) := by decide +kernel
theorem dX0_findTargets_50 : decode cX0_findTargets 50 = .ok (.irem, 1) := by decide +kernel
theorem dX0_findTargets_51 : decode cX0_findTargets 51 = .ok (.aload_n 0, 1) := by decide +kernel
theorem dX0_findTargets_52 : decode cX0_findTargets 52 = .ok (.getfield 27, 3) := by decide +kernel
theorem dX0_findTargets_55 : decode cX0_findTargets 55 = .ok (.getfield 87, 3) := by decide +kernel
theorem dX0_findTargets_58 : decode cX0_findTargets 58 = .ok (.iload_n 3, 1) := by decide +kernel
theorem dX0_findTargets_59 : decode cX0_findTargets 59 = .ok (.iaload, 1) := by decide +kernel
theorem dX0_findTargets_60 : decode cX0_findTargets 60 = .ok (.invokestatic 90, 3) := by decide +kernel
theorem dX0_findTargets_63 : decode cX0_findTargets 63 = .ok (.if_icmp .ge 15, 3) := by decide +kernel
theorem dX0_findTargets_66 : decode cX0_findTargets 66 = .ok (.iload_n 1, 1) := by decide +kernel
theorem dX0_findTargets_67 : decode cX0_findTargets 67 = .ok (.iload_n 2, 1) := by decide +kernel
theorem dX0_findTargets_68 : decode cX0_findTargets 68 = .ok (.ishr, 1) := by decide +kernel
theorem dX0_findTargets_69 : decode cX0_findTargets 69 = .ok (.iconst 1, 1) := by decide +kernel
theorem dX0_findTargets_70 : decode cX0_findTargets 70 = .ok (.iand, 1) := by decide +kernel
theorem dX0_findTargets_71 : decode cX0_findTargets 71 = .ok (.ifCond .ne 7, 3) := by decide +kernel
theorem dX0_findTargets_74 : decode cX0_findTargets 74 = .ok (.iconst 1, 1) := by decide +kernel
theorem dX0_findTargets_75 : decode cX0_findTargets 75 = .ok (.goto 4, 3) := by decide +kernel
theorem dX0_findTargets_78 : decode cX0_findTargets 78 = .ok (.iconst 0, 1) := by decide +kernel
theorem dX0_findTargets_79 : decode cX0_findTargets 79 = .ok (.istore 5, 2) := by decide +kernel
theorem dX0_findTargets_81 : decode cX0_findTargets 81 = .ok (.aload_n 0, 1) := by decide +kernel
theorem dX0_findTargets_82 : decode cX0_findTargets 82 = .ok (.getfield 9, 3) := by decide +kernel
theorem dX0_findTargets_85 : decode cX0_findTargets 85 = .ok (.iload_n 2, 1) := by decide +kernel
theorem dX0_findTargets_86 : decode cX0_findTargets 86 = .ok (.iload 5, 2) := by decide +kernel
theorem dX0_findTargets_88 : decode cX0_findTargets 88 = .ok (.ifCond .eq 8, 3) := by decide +kernel
theorem dX0_findTargets_91 : decode cX0_findTargets 91 = .ok (.iload 4, 2) := by decide +kernel
theorem dX0_findTargets_93 : decode cX0_findTargets 93 = .ok (.goto 4, 3) := by decide +kernel
theorem dX0_findTargets_96 : decode cX0_findTargets 96 = .ok (.iconst (-1), 1) := by decide +kernel
theorem dX0_findTargets_97 : decode cX0_findTargets 97 = .ok (.iastore, 1) := by decide +kernel
theorem dX0_findTargets_98 : decode cX0_findTargets 98 = .ok (.iinc 2 1, 3) := by decide +kernel
theorem dX0_findTargets_101 : decode cX0_findTargets 101 = .ok (.goto (-99), 3) := by decide +kernel
theorem dX0_findTargets_104 : decode cX0_findTargets 104 = .ok (.return_, 1) := by decide +kernel
theorem dX0_doNode_0 : decode cX0_doNode 0 = .ok (.aload_n 0, 1) := by decide +kernel
theorem dX0_doNode_1 : decode cX0_doNode 1 = .ok (.getfield 27, 3) := by decide +kernel
theorem dX0_doNode_4 : decode cX0_doNode 4 = .ok (.iload_n 1, 1) := by decide +kernel
theorem dX0_doNode_5 : decode cX0_doNode 5 = .ok (.invokevirtual 61, 3) := by decide +kernel
theorem dX0_doNode_8 : decode cX0_doNode 8 = .ok (.ifCond .eq 18, 3) := by decide +kernel
theorem dX0_doNode_11 : decode cX0_doNode 11 = .ok (.iload_n 2, 1) := by decide +kernel
theorem dX0_doNode_12 : decode cX0_doNode 12 = .ok (.bipush 8, 2) := by decide +kernel
theorem dX0_doNode_14 : decode cX0_doNode 14 = .ok (.if_icmp .ge 12, 3) := by decide +kernel
theorem dX0_doNode_17 : decode cX0_doNode 17 = .ok (.aload_n 0, 1) := by decide +kernel
theorem dX0_doNode_18 : decode cX0_doNode 18 = .ok (.getfield 39, 3) := by decide +kernel
theorem dX0_doNode_21 : decode cX0_doNode 21 = .ok (.bipush 8, 2) := by decide +kernel
theorem dX0_doNode_23 : decode cX0_doNode 23 = .ok (.if_icmp .lt 4, 3) := by decide +kernel
theorem dX0_doNode_26 : decode cX0_doNode 26 = .ok (.return_, 1) := by decide +kernel
theorem dX0_doNode_27 : decode cX0_doNode 27 = .ok (.aload_n 0, 1) := by decide +kernel
theorem dX0_doNode_28 : decode cX0_doNode 28 = .ok (.dup, 1) := by decide +kernel
theorem dX0_doNode_29 : decode cX0_doNode 29 = .ok (.getfield 35, 3) := by decide +kernel
theorem dX0_doNode_32 : decode cX0_doNode 32 = .ok (.iconst 1, 1) := by decide +kernel
theorem dX0_doNode_33 : decode cX0_doNode 33 = .ok (.iload_n 1, 1) := by decide +kernel
theorem dX0_doNode_34 : decode cX0_doNode 34 = .ok (.ishl, 1) := by decide +kernel
theorem dX0_doNode_35 : decode cX0_doNode 35 = .ok (.ior, 1) := by decide +kernel
theorem dX0_doNode_36 : decode cX0_doNode 36 = .ok (.putfield 35, 3) := by decide +kernel
theorem dX0_doNode_39 : decode cX0_doNode 39 = .ok (.iconst 2, 1) := by decide +kernel
theorem dX0_doNode_40 : decode cX0_doNode 40 = .ok (.iload_n 1, 1) := by decide +kernel
theorem dX0_doNode_41 : decode cX0_doNode 41 = .ok (.imul, 1) := by decide +kernel
theorem dX0_doNode_42 : decode cX0_doNode 42 = .ok (.istore_n 3, 1) := by decide +kernel
theorem dX0_doNode_43 : decode cX0_doNode 43 = .ok (.iload_n 3, 1) := by decide +kernel
theorem dX0_doNode_44 : decode cX0_doNode 44 = .ok (.iconst 2, 1) := by decide +kernel
theorem dX0_doNode_45 : decode cX0_doNode 45 = .ok (.iload_n 1, 1) := by decide +kernel
theorem dX0_doNode_46 : decode cX0_doNode 46 = .ok (.imul, 1) := by decide +kernel
theorem dX0_doNode_47 : decode cX0_doNode 47 = .ok (.iconst 1, 1) := by decide +kernel
theorem dX0_doNode_48 : decode cX0_doNode 48 = .ok (.iadd, 1) := by decide +kernel
theorem dX0_doNode_49 : decode cX0_doNode 49 = .ok (.if_icmp .gt 44, 3) := by decide +kernel
theorem dX0_doNode_52 : decode cX0_doNode 52 = .ok (.aload_n 0, 1) := by decide +kernel
theorem dX0_doNode_53 : decode cX0_doNode 53 = .ok (.getfield 9, 3) := by decide +kernel
theorem dX0_doNode_56 : decode cX0_doNode 56 = .ok (.iload_n 3, 1) := by decide +kernel
theorem dX0_doNode_57 : decode cX0_doNode 57 = .ok (.iaload, 1) := by decide +kernel
theorem dX0_doNode_58 : decode cX0_doNode 58 = .ok (.istore 4, 2) := by decide +kernel
theorem dX0_doNode_60 : decode cX0_doNode 60 = .ok (.iload 4, 2) := by decide +kernel
theorem dX0_doNode_62 : decode cX0_doNode 62 = .ok (.iconst (-1), 1) := by decide +kernel
theorem dX0_doNode_63 : decode cX0_doNode 63 = .ok (.if_icmp .eq 24, 3) := by decide +kernel
theorem dX0_doNode_66 : decode cX0_doNode 66 = .ok (.aload_n 0, 1) := by decide +kernel
theorem dX0_doNode_67 : decode cX0_doNode 67 = .ok (.getfield 35, 3) := by decide +kernel
theorem dX0_doNode_70 : decode cX0_doNode 70 = .ok (.iload 4, 2) := by decide +kernel
theorem dX0_doNode_72 : decode cX0_doNode 72 = .ok (.ishr, 1) := by decide +kernel
theorem dX0_doNode_73 : decode cX0_doNode 73 = .ok (.iconst 1, 1) := by decide +kernel
theorem dX0_doNode_74 : decode cX0_doNode 74 = .ok (.iand, 1) := by decide +kernel
theorem dX0_doNode_75 : decode cX0_doNode 75 = .ok (.ifCond .ne 12, 3) := by decide +kernel
theorem dX0_doNode_78 : decode cX0_doNode 78 = .ok (.aload_n 0, 1) := by decide +kernel
theorem dX0_doNode_79 : decode cX0_doNode 79 = .ok (.iload 4, 2) := by decide +kernel
theorem dX0_doNode_81 : decode cX0_doNode 81 = .ok (.iload_n 2, 1) := by decide +kernel
theorem dX0_doNode_82 : decode cX0_doNode 82 = .ok (.iconst 1, 1) := by decide +kernel
theorem dX0_doNode_83 : decode cX0_doNode 83 = .ok (.iadd, 1) := by decide +kernel
theorem dX0_doNode_84 : decode cX0_doNode 84 = .ok (.invokevirtual 42, 3) := by decide +kernel
theorem dX0_doNode_87 : decode cX0_doNode 87 = .ok (.iinc 3 1, 3) := by decide +kernel
theorem dX0_doNode_90 : decode cX0_doNode 90 = .ok (.goto (-47), 3) := by decide +kernel
theorem dX0_doNode_93 : decode cX0_doNode 93 = .ok (.aload_n 0, 1) := by decide +kernel
theorem dX0_doNode_94 : decode cX0_doNode 94 = .ok (.getfield 18, 3) := by decide +kernel
theorem dX0_doNode_97 : decode cX0_doNode 97 = .ok (.aload_n 0, 1) := by decide +kernel
theorem dX0_doNode_98 : decode cX0_doNode 98 = .ok (.getfield 39, 3) := by decide +kernel
theorem dX0_doNode_101 : decode cX0_doNode 101 = .ok (.iload_n 1, 1) := by decide +kernel
theorem dX0_doNode_102 : decode cX0_doNode 102 = .ok (.iastore, 1) := by decide +kernel
theorem dX0_doNode_103 : decode cX0_doNode 103 = .ok (.aload_n 0, 1) := by decide +kernel
theorem dX0_doNode_104 : decode cX0_doNode 104 = .ok (.dup, 1) := by decide +kernel
theorem dX0_doNode_105 : decode cX0_doNode 105 = .ok (.getfield 39, 3) := by decide +kernel
theorem dX0_doNode_108 : decode cX0_doNode 108 = .ok (.iconst 1, 1) := by decide +kernel
theorem dX0_doNode_109 : decode cX0_doNode 109 = .ok (.iadd, 1) := by decide +kernel
theorem dX0_doNode_110 : decode cX0_doNode 110 = .ok (.putfield 39, 3) := by decide +kernel
theorem dX0_doNode_113 : decode cX0_doNode 113 = .ok (.return_, 1) := by decide +kernel
theorem dX0_findRulers_0 : decode cX0_findRulers 0 = .ok (.aload_n 0, 1) := by decide +kernel
theorem dX0_findRulers_1 : decode cX0_findRulers 1 = .ok (.getfield 24, 3) := by decide +kernel
theorem dX0_findRulers_4 : decode cX0_findRulers 4 = .ok (.iconst 0, 1) := by decide +kernel
theorem dX0_findRulers_5 : decode cX0_findRulers 5 = .ok (.invokestatic 46, 3) := by decide +kernel
theorem dX0_findRulers_8 : decode cX0_findRulers 8 = .ok (.iconst 0, 1) := by decide +kernel
theorem dX0_findRulers_9 : decode cX0_findRulers 9 = .ok (.istore_n 1, 1) := by decide +kernel
theorem dX0_findRulers_10 : decode cX0_findRulers 10 = .ok (.iload_n 1, 1) := by decide +kernel
theorem dX0_findRulers_11 : decode cX0_findRulers 11 = .ok (.aload_n 0, 1) := by decide +kernel
theorem dX0_findRulers_12 : decode cX0_findRulers 12 = .ok (.getfield 39, 3) := by decide +kernel
theorem dX0_findRulers_15 : decode cX0_findRulers 15 = .ok (.if_icmp .ge 37, 3) := by decide +kernel
theorem dX0_findRulers_18 : decode cX0_findRulers 18 = .ok (.aload_n 0, 1) := by decide +kernel
theorem dX0_findRulers_19 : decode cX0_findRulers 19 = .ok (.getfield 24, 3) := by decide +kernel
theorem dX0_findRulers_22 : decode cX0_findRulers 22 = .ok (.aload_n 0, 1) := by decide +kernel
theorem dX0_findRulers_23 : decode cX0_findRulers 23 = .ok (.getfield 18, 3) := by decide +kernel
theorem dX0_findRulers_26 : decode cX0_findRulers 26 = .ok (.iload_n 1, 1) := by decide +kernel
theorem dX0_findRulers_27 : decode cX0_findRulers 27 = .ok (.iaload, 1) := by decide +kernel
theorem dX0_findRulers_28 : decode cX0_findRulers 28 = .ok (.aload_n 0, 1) := by decide +kernel
theorem dX0_findRulers_29 : decode cX0_findRulers 29 = .ok (.getfield 18, 3) := by decide +kernel
theorem dX0_findRulers_32 : decode cX0_findRulers 32 = .ok (.iload_n 1, 1) := by decide +kernel
theorem dX0_findRulers_33 : decode cX0_findRulers 33 = .ok (.iaload, 1) := by decide +kernel
theorem dX0_findRulers_34 : decode cX0_findRulers 34 = .ok (.ifCond .ne 7, 3) := by decide +kernel
theorem dX0_findRulers_37 : decode cX0_findRulers 37 = .ok (.iconst 1, 1) := by decide +kernel
theorem dX0_findRulers_38 : decode cX0_findRulers 38 = .ok (.goto 7, 3) := by decide +kernel
theorem dX0_findRulers_41 : decode cX0_findRulers 41 = .ok (.aload_n 0, 1) := by decide +kernel
theorem dX0_findRulers_42 : decode cX0_findRulers 42 = .ok (.getfield 35, 3) := by decide +kernel
theorem dX0_findRulers_45 : decode cX0_findRulers 45 = .ok (.iastore, 1) := by decide +kernel
theorem dX0_findRulers_46 : decode cX0_findRulers 46 = .ok (.iinc 1 1, 3) := by decide +kernel
theorem dX0_findRulers_49 : decode cX0_findRulers 49 = .ok (.goto (-39), 3) := by decide +kernel
theorem dX0_findRulers_52 : decode cX0_findRulers 52 = .ok (.iconst 1, 1) := by decide +kernel
theorem dX0_findRulers_53 : decode cX0_findRulers 53 = .ok (.istore_n 1, 1) := by decide +kernel
theorem dX0_findRulers_54 : decode cX0_findRulers 54 = .ok (.iconst 0, 1) := by decide +kernel
theorem dX0_findRulers_55 : decode cX0_findRulers 55 = .ok (.istore_n 2, 1) := by decide +kernel
theorem dX0_findRulers_56 : decode cX0_findRulers 56 = .ok (.iload_n 1, 1) := by decide +kernel
theorem dX0_findRulers_57 : decode cX0_findRulers 57 = .ok (.ifCond .eq 62, 3) := by decide +kernel
theorem dX0_findRulers_60 : decode cX0_findRulers 60 = .ok (.iload_n 2, 1) := by decide +kernel
theorem dX0_findRulers_61 : decode cX0_findRulers 61 = .ok (.bipush 64, 2) := by decide +kernel
theorem dX0_findRulers_63 : decode cX0_findRulers 63 = .ok (.if_icmp .gt 56, 3) := by decide +kernel
theorem dX0_findRulers_66 : decode cX0_findRulers 66 = .ok (.iconst 0, 1) := by decide +kernel
theorem dX0_findRulers_67 : decode cX0_findRulers 67 = .ok (.istore_n 1, 1) := by decide +kernel
theorem dX0_findRulers_68 : decode cX0_findRulers 68 = .ok (.aload_n 0, 1) := by decide +kernel
theorem dX0_findRulers_69 : decode cX0_findRulers 69 = .ok (.getfield 39, 3) := by decide +kernel
theorem dX0_findRulers_72 : decode cX0_findRulers 72 = .ok (.iconst 1, 1) := by decide +kernel
theorem dX0_findRulers_73 : decode cX0_findRulers 73 = .ok (.isub, 1) := by decide +kernel
theorem dX0_findRulers_74 : decode cX0_findRulers 74 = .ok (.istore_n 3, 1) := by decide +kernel
theorem dX0_findRulers_75 : decode cX0_findRulers 75 = .ok (.iload_n 3, 1) := by decide +kernel
theorem dX0_findRulers_76 : decode cX0_findRulers 76 = .ok (.ifCond .lt 37, 3) := by decide +kernel
theorem dX0_findRulers_79 : decode cX0_findRulers 79 = .ok (.iload_n 1, 1) := by decide +kernel
theorem dX0_findRulers_80 : decode cX0_findRulers 80 = .ok (.aload_n 0, 1) := by decide +kernel
theorem dX0_findRulers_81 : decode cX0_findRulers 81 = .ok (.aload_n 0, 1) := by decide +kernel
theorem dX0_findRulers_82 : decode cX0_findRulers 82 = .ok (.getfield 18, 3) := by decide +kernel
theorem dX0_findRulers_85 : decode cX0_findRulers 85 = .ok (.iload_n 3, 1) := by decide +kernel
theorem dX0_findRulers_86 : decode cX0_findRulers 86 = .ok (.iaload, 1) := by decide +kernel
theorem dX0_findRulers_87 : decode cX0_findRulers 87 = .ok (.iconst 0, 1) := by decide +kernel
theorem dX0_findRulers_88 : decode cX0_findRulers 88 = .ok (.invokevirtual 94, 3) := by decide +kernel
theorem dX0_findRulers_91 : decode cX0_findRulers 91 = .ok (.ior, 1) := by decide +kernel
theorem dX0_findRulers_92 : decode cX0_findRulers 92 = .ok (.istore_n 1, 1) := by decide +kernel
theorem dX0_findRulers_93 : decode cX0_findRulers 93 = .ok (.iload_n 1, 1) := by decide +kernel
theorem dX0_findRulers_94 : decode cX0_findRulers 94 = .ok (.aload_n 0, 1) := by decide +kernel
theorem dX0_findRulers_95 : decode cX0_findRulers 95 = .ok (.aload_n 0, 1) := by decide +kernel
theorem dX0_findRulers_96 : decode cX0_findRulers 96 = .ok (.getfield 18, 3) := by decide +kernel
theorem dX0_findRulers_99 : decode cX0_findRulers 99 = .ok (.iload_n 3, 1) := by decide +kernel
theorem dX0_findRulers_100 : decode cX0_findRulers 100 = .ok (.iaload, 1) := by decide +kernel
theorem dX0_findRulers_101 : decode cX0_findRulers 101 = .ok (.iconst 1, 1) := by decide +kernel
theorem dX0_findRulers_102 : decode cX0_findRulers 102 = .ok (.invokevirtual 94, 3) := by decide +kernel
theorem dX0_findRulers_105 : decode cX0_findRulers 105 = .ok (.ior, 1) := by decide +kernel
theorem dX0_findRulers_106 : decode cX0_findRulers 106 = .ok (.istore_n 1, 1) := by decide +kernel
theorem dX0_findRulers_107 : decode cX0_findRulers 107 = .ok (.iinc 3 (-1), 3) := by decide +kernel
theorem dX0_findRulers_110 : decode cX0_findRulers 110 = .ok (.goto (-35), 3) := by decide +kernel
theorem dX0_findRulers_113 : decode cX0_findRulers 113 = .ok (.iinc 2 1, 3) := by decide +kernel
theorem dX0_findRulers_116 : decode cX0_findRulers 116 = .ok (.goto (-60), 3) := by decide +kernel
theorem dX0_findRulers_119 : decode cX0_findRulers 119 = .ok (.return_, 1) := by decide +kernel
theorem dX0_strikeBehind_0 : decode cX0_strikeBehind 0 = .ok (.aload_n 0, 1) := by decide +kernel
theorem dX0_strikeBehind_1 : decode cX0_strikeBehind 1 = .ok (.getfield 9, 3) := by decide +kernel
theorem dX0_strikeBehind_4 : decode cX0_strikeBehind 4 = .ok (.iconst 2, 1) := by decide +kernel
theorem dX0_strikeBehind_5 : decode cX0_strikeBehind 5 = .ok (.iload_n 1, 1) := by decide +kernel
theorem dX0_strikeBehind_6 : decode cX0_strikeBehind 6 = .ok (.imul, 1) := by decide +kernel
theorem dX0_strikeBehind_7 : decode cX0_strikeBehind 7 = .ok (.iload_n 2, 1) := by decide +kernel
theorem dX0_strikeBehind_8 : decode cX0_strikeBehind 8 = .ok (.iadd, 1) := by decide +kernel
theorem dX0_strikeBehind_9 : decode cX0_strikeBehind 9 = .ok (.iaload, 1) := by decide +kernel
theorem dX0_strikeBehind_10 : decode cX0_strikeBehind 10 = .ok (.istore_n 3, 1) := by decide +kernel
theorem dX0_strikeBehind_11 : decode cX0_strikeBehind 11 = .ok (.iload_n 3, 1) := by decide +kernel
theorem dX0_strikeBehind_12 : decode cX0_strikeBehind 12 = .ok (.iconst (-1), 1) := by decide +kernel
theorem dX0_strikeBehind_13 : decode cX0_strikeBehind 13 = .ok (.if_icmp .ne 5, 3) := by decide +kernel
theorem dX0_strikeBehind_16 : decode cX0_strikeBehind 16 = .ok (.iconst 0, 1) := by decide +kernel
theorem dX0_strikeBehind_17 : decode cX0_strikeBehind 17 = .ok (.ireturn, 1) := by decide +kernel
theorem dX0_strikeBehind_18 : decode cX0_strikeBehind 18 = .ok (.aload_n 0, 1) := by decide +kernel
theorem dX0_strikeBehind_19 : decode cX0_strikeBehind 19 = .ok (.getfield 24, 3) := by decide +kernel
theorem dX0_strikeBehind_22 : decode cX0_strikeBehind 22 = .ok (.iload_n 3, 1) := by decide +kernel
theorem dX0_strikeBehind_23 : decode cX0_strikeBehind 23 = .ok (.iaload, 1) := by decide +kernel
theorem dX0_strikeBehind_24 : decode cX0_strikeBehind 24 = .ok (.aload_n 0, 1) := by decide +kernel
theorem dX0_strikeBehind_25 : decode cX0_strikeBehind 25 = .ok (.getfield 24, 3) := by decide +kernel
theorem dX0_strikeBehind_28 : decode cX0_strikeBehind 28 = .ok (.iload_n 1, 1) := by decide +kernel
theorem dX0_strikeBehind_29 : decode cX0_strikeBehind 29 = .ok (.iaload, 1) := by decide +kernel
theorem dX0_strikeBehind_30 : decode cX0_strikeBehind 30 = .ok (.iconst 1, 1) := by decide +kernel
theorem dX0_strikeBehind_31 : decode cX0_strikeBehind 31 = .ok (.iload_n 3, 1) := by decide +kernel
theorem dX0_strikeBehind_32 : decode cX0_strikeBehind 32 = .ok (.ishl, 1) := by decide +kernel
theorem dX0_strikeBehind_33 : decode cX0_strikeBehind 33 = .ok (.ior, 1) := by decide +kernel
theorem dX0_strikeBehind_34 : decode cX0_strikeBehind 34 = .ok (.iand, 1) := by decide +kernel
theorem dX0_strikeBehind_35 : decode cX0_strikeBehind 35 = .ok (.istore 4, 2) := by decide +kernel
theorem dX0_strikeBehind_37 : decode cX0_strikeBehind 37 = .ok (.iload 4, 2) := by decide +kernel
theorem dX0_strikeBehind_39 : decode cX0_strikeBehind 39 = .ok (.aload_n 0, 1) := by decide +kernel
theorem dX0_strikeBehind_40 : decode cX0_strikeBehind 40 = .ok (.getfield 24, 3) := by decide +kernel
theorem dX0_strikeBehind_43 : decode cX0_strikeBehind 43 = .ok (.iload_n 3, 1) := by decide +kernel
theorem dX0_strikeBehind_44 : decode cX0_strikeBehind 44 = .ok (.iaload, 1) := by decide +kernel
theorem dX0_strikeBehind_45 : decode cX0_strikeBehind 45 = .ok (.if_icmp .eq 7, 3) := by decide +kernel
theorem dX0_strikeBehind_48 : decode cX0_strikeBehind 48 = .ok (.iconst 1, 1) := by decide +kernel
theorem dX0_strikeBehind_49 : decode cX0_strikeBehind 49 = .ok (.goto 4, 3) := by decide +kernel
theorem dX0_strikeBehind_52 : decode cX0_strikeBehind 52 = .ok (.iconst 0, 1) := by decide +kernel
theorem dX0_strikeBehind_53 : decode cX0_strikeBehind 53 = .ok (.istore 5, 2) := by decide +kernel
theorem dX0_strikeBehind_55 : decode cX0_strikeBehind 55 = .ok (.aload_n 0, 1) := by decide +kernel
theorem dX0_strikeBehind_56 : decode cX0_strikeBehind 56 = .ok (.getfield 24, 3) := by decide +kernel
theorem dX0_strikeBehind_59 : decode cX0_strikeBehind 59 = .ok (.iload_n 3, 1) := by decide +kernel
theorem dX0_strikeBehind_60 : decode cX0_strikeBehind 60 = .ok (.iload 4, 2) := by decide +kernel
theorem dX0_strikeBehind_62 : decode cX0_strikeBehind 62 = .ok (.iastore, 1) := by decide +kernel
theorem dX0_strikeBehind_63 : decode cX0_strikeBehind 63 = .ok (.iload 5, 2) := by decide +kernel
theorem dX0_strikeBehind_65 : decode cX0_strikeBehind 65 = .ok (.ireturn, 1) := by decide +kernel
theorem dX0_weighEdges_0 : decode cX0_weighEdges 0 = .ok (.aload_n 0, 1) := by decide +kernel
theorem dX0_weighEdges_1 : decode cX0_weighEdges 1 = .ok (.iconst 0, 1) := by decide +kernel
theorem dX0_weighEdges_2 : decode cX0_weighEdges 2 = .ok (.putfield 97, 3) := by decide +kernel
theorem dX0_weighEdges_5 : decode cX0_weighEdges 5 = .ok (.aload_n 0, 1) := by decide +kernel
theorem dX0_weighEdges_6 : decode cX0_weighEdges 6 = .ok (.iconst 0, 1) := by decide +kernel
theorem dX0_weighEdges_7 : decode cX0_weighEdges 7 = .ok (.putfield 100, 3) := by decide +kernel
theorem dX0_weighEdges_10 : decode cX0_weighEdges 10 = .ok (.aload_n 0, 1) := by decide +kernel
theorem dX0_weighEdges_11 : decode cX0_weighEdges 11 = .ok (.iconst 0, 1) := by decide +kernel
theorem dX0_weighEdges_12 : decode cX0_weighEdges 12 = .ok (.putfield 58, 3) := by decide +kernel
theorem dX0_weighEdges_15 : decode cX0_weighEdges 15 = .ok (.aload_n 0, 1) := by decide +kernel
theorem dX0_weighEdges_16 : decode cX0_weighEdges 16 = .ok (.iconst 0, 1) := by decide +kernel
theorem dX0_weighEdges_17 : decode cX0_weighEdges 17 = .ok (.putfield 70, 3) := by decide +kernel
theorem dX0_weighEdges_20 : decode cX0_weighEdges 20 = .ok (.aload_n 0, 1) := by decide +kernel
theorem dX0_weighEdges_21 : decode cX0_weighEdges 21 = .ok (.iconst 0, 1) := by decide +kernel
theorem dX0_weighEdges_22 : decode cX0_weighEdges 22 = .ok (.putfield 73, 3) := by decide +kernel
theorem dX0_weighEdges_25 : decode cX0_weighEdges 25 = .ok (.iconst 0, 1) := by decide +kernel
theorem dX0_weighEdges_26 : decode cX0_weighEdges 26 = .ok (.istore_n 1, 1) := by decide +kernel
theorem dX0_weighEdges_27 : decode cX0_weighEdges 27 = .ok (.iconst 0, 1) := by decide +kernel
theorem dX0_weighEdges_28 : decode cX0_weighEdges 28 = .ok (.istore_n 2, 1) := by decide +kernel
theorem dX0_weighEdges_29 : decode cX0_weighEdges 29 = .ok (.iload_n 2, 1) := by decide +kernel
theorem dX0_weighEdges_30 : decode cX0_weighEdges 30 = .ok (.bipush 16, 2) := by decide +kernel
theorem dX0_weighEdges_32 : decode cX0_weighEdges 32 = .ok (.if_icmp .ge 168, 3) := by decide +kernel
theorem dX0_weighEdges_35 : decode cX0_weighEdges 35 = .ok (.iload_n 2, 1) := by decide +kernel
theorem dX0_weighEdges_36 : decode cX0_weighEdges 36 = .ok (.iconst 2, 1) := by decide +kernel
theorem dX0_weighEdges_37 : decode cX0_weighEdges 37 = .ok (.idiv, 1) := by decide +kernel
theorem dX0_weighEdges_38 : decode cX0_weighEdges 38 = .ok (.istore_n 3, 1) := by decide +kernel
theorem dX0_weighEdges_39 : decode cX0_weighEdges 39 = .ok (.aload_n 0, 1) := by decide +kernel
theorem dX0_weighEdges_40 : decode cX0_weighEdges 40 = .ok (.getfield 9, 3) := by decide +kernel
theorem dX0_weighEdges_43 : decode cX0_weighEdges 43 = .ok (.iload_n 2, 1) := by decide +kernel
theorem dX0_weighEdges_44 : decode cX0_weighEdges 44 = .ok (.iaload, 1) := by decide +kernel
theorem dX0_weighEdges_45 : decode cX0_weighEdges 45 = .ok (.istore 4, 2) := by decide +kernel
theorem dX0_weighEdges_47 : decode cX0_weighEdges 47 = .ok (.aload_n 0, 1) := by decide +kernel
theorem dX0_weighEdges_48 : decode cX0_weighEdges 48 = .ok (.getfield 15, 3) := by decide +kernel
theorem dX0_weighEdges_51 : decode cX0_weighEdges 51 = .ok (.iload_n 2, 1) := by decide +kernel
theorem dX0_weighEdges_52 : decode cX0_weighEdges 52 = .ok (.iconst (-1), 1) := by decide +kernel
theorem dX0_weighEdges_53 : decode cX0_weighEdges 53 = .ok (.iastore, 1) := by decide +kernel
theorem dX0_weighEdges_54 : decode cX0_weighEdges 54 = .ok (.iload 4, 2) := by decide +kernel
theorem dX0_weighEdges_56 : decode cX0_weighEdges 56 = .ok (.iconst (-1), 1) := by decide +kernel
theorem dX0_weighEdges_57 : decode cX0_weighEdges 57 = .ok (.if_icmp .eq 137, 3) := by decide +kernel
theorem dX0_weighEdges_60 : decode cX0_weighEdges 60 = .ok (.aload_n 0, 1) := by decide +kernel
theorem dX0_weighEdges_61 : decode cX0_weighEdges 61 = .ok (.getfield 35, 3) := by decide +kernel
theorem dX0_weighEdges_64 : decode cX0_weighEdges 64 = .ok (.iload_n 3, 1) := by decide +kernel
theorem dX0_weighEdges_65 : decode cX0_weighEdges 65 = .ok (.ishr, 1) := by decide +kernel
theorem dX0_weighEdges_66 : decode cX0_weighEdges 66 = .ok (.iconst 1, 1) := by decide +kernel
theorem dX0_weighEdges_67 : decode cX0_weighEdges 67 = .ok (.iand, 1) := by decide +kernel
theorem dX0_weighEdges_68 : decode cX0_weighEdges 68 = .ok (.ifCond .ne 6, 3) := by decide +kernel
theorem dX0_weighEdges_71 : decode cX0_weighEdges 71 = .ok (.goto 123, 3) := by decide +kernel
theorem dX0_weighEdges_74 : decode cX0_weighEdges 74 = .ok (.aload_n 0, 1) := by decide +kernel
theorem dX0_weighEdges_75 : decode cX0_weighEdges 75 = .ok (.dup, 1) := by decide +kernel
theorem dX0_weighEdges_76 : decode cX0_weighEdges 76 = .ok (.getfield 97, 3) := by decide +kernel
theorem dX0_weighEdges_79 : decode cX0_weighEdges 79 = .ok (.iconst 1, 1) := by decide +kernel
theorem dX0_weighEdges_80 : decode cX0_weighEdges 80 = .ok (.iadd, 1) := by decide +kernel
theorem dX0_weighEdges_81 : decode cX0_weighEdges 81 = .ok (.putfield 97, 3) := by decide +kernel
theorem dX0_weighEdges_84 : decode cX0_weighEdges 84 = .ok (.iconst 1, 1) := by decide +kernel
theorem dX0_weighEdges_85 : decode cX0_weighEdges 85 = .ok (.iload 4, 2) := by decide +kernel
theorem dX0_weighEdges_87 : decode cX0_weighEdges 87 = .ok (.ishl, 1) := by decide +kernel
theorem dX0_weighEdges_88 : decode cX0_weighEdges 88 = .ok (.istore 5, 2) := by decide +kernel
theorem dX0_weighEdges_90 : decode cX0_weighEdges 90 = .ok (.aload_n 0, 1) := by decide +kernel
theorem dX0_weighEdges_91 : decode cX0_weighEdges 91 = .ok (.getfield 21, 3) := by decide +kernel
theorem dX0_weighEdges_94 : decode cX0_weighEdges 94 = .ok (.iload 4, 2) := by decide +kernel
theorem dX0_weighEdges_96 : decode cX0_weighEdges 96 = .ok (.iaload, 1) := by decide +kernel
theorem dX0_weighEdges_97 : decode cX0_weighEdges 97 = .ok (.aload_n 0, 1) := by decide +kernel
theorem dX0_weighEdges_98 : decode cX0_weighEdges 98 = .ok (.getfield 21, 3) := by decide +kernel
theorem dX0_weighEdges_101 : decode cX0_weighEdges 101 = .ok (.iload_n 3, 1) := by decide +kernel
theorem dX0_weighEdges_102 : decode cX0_weighEdges 102 = .ok (.iaload, 1) := by decide +kernel
theorem dX0_weighEdges_103 : decode cX0_weighEdges 103 = .ok (.if_icmp .le 31, 3) := by decide +kernel
theorem dX0_weighEdges_106 : decode cX0_weighEdges 106 = .ok (.aload_n 0, 1) := by decide +kernel
theorem dX0_weighEdges_107 : decode cX0_weighEdges 107 = .ok (.getfield 15, 3) := by decide +kernel
theorem dX0_weighEdges_110 : decode cX0_weighEdges 110 = .ok (.iload_n 2, 1) := by decide +kernel
theorem dX0_weighEdges_111 : decode cX0_weighEdges 111 = .ok (.iconst 0, 1) := by decide +kernel
theorem dX0_weighEdges_112 : decode cX0_weighEdges 112 = .ok (.iastore, 1) := by decide +kernel
theorem dX0_weighEdges_113 : decode cX0_weighEdges 113 = .ok (.aload_n 0, 1) := by decide +kernel
theorem dX0_weighEdges_114 : decode cX0_weighEdges 114 = .ok (.dup, 1) := by decide +kernel
theorem dX0_weighEdges_115 : decode cX0_weighEdges 115 = .ok (.getfield 73, 3) := by decide +kernel
theorem dX0_weighEdges_118 : decode cX0_weighEdges 118 = .ok (.iload_n 1, 1) := by decide +kernel
theorem dX0_weighEdges_119 : decode cX0_weighEdges 119 = .ok (.iload 5, 2) := by decide +kernel
theorem dX0_weighEdges_121 : decode cX0_weighEdges 121 = .ok (.iand, 1) := by decide +kernel
theorem dX0_weighEdges_122 : decode cX0_weighEdges 122 = .ok (.ior, 1) := by decide +kernel
theorem dX0_weighEdges_123 : decode cX0_weighEdges 123 = .ok (.putfield 73, 3) := by decide +kernel
theorem dX0_weighEdges_126 : decode cX0_weighEdges 126 = .ok (.iload_n 1, 1) := by decide +kernel
theorem dX0_weighEdges_127 : decode cX0_weighEdges 127 = .ok (.iload 5, 2) := by decide +kernel
theorem dX0_weighEdges_129 : decode cX0_weighEdges 129 = .ok (.ior, 1) := by decide +kernel
theorem dX0_weighEdges_130 : decode cX0_weighEdges 130 = .ok (.istore_n 1, 1) := by decide +kernel
theorem dX0_weighEdges_131 : decode cX0_weighEdges 131 = .ok (.goto 63, 3) := by decide +kernel
theorem dX0_weighEdges_134 : decode cX0_weighEdges 134 = .ok (.aload_n 0, 1) := by decide +kernel
theorem dX0_weighEdges_135 : decode cX0_weighEdges 135 = .ok (.getfield 24, 3) := by decide +kernel
theorem dX0_weighEdges_138 : decode cX0_weighEdges 138 = .ok (.iload_n 3, 1) := by decide +kernel
theorem dX0_weighEdges_139 : decode cX0_weighEdges 139 = .ok (.iaload, 1) := by decide +kernel
theorem dX0_weighEdges_140 : decode cX0_weighEdges 140 = .ok (.iload 5, 2) := by decide +kernel
theorem dX0_weighEdges_142 : decode cX0_weighEdges 142 = .ok (.iand, 1) := by decide +kernel
theorem dX0_weighEdges_143 : decode cX0_weighEdges 143 = .ok (.ifCond .eq 34, 3) := by decide +kernel
theorem dX0_weighEdges_146 : decode cX0_weighEdges 146 = .ok (.aload_n 0, 1) := by decide +kernel
theorem dX0_weighEdges_147 : decode cX0_weighEdges 147 = .ok (.getfield 15, 3) := by decide +kernel
theorem dX0_weighEdges_150 : decode cX0_weighEdges 150 = .ok (.iload_n 2, 1) := by decide +kernel
theorem dX0_weighEdges_151 : decode cX0_weighEdges 151 = .ok (.iconst 1, 1) := by decide +kernel
theorem dX0_weighEdges_152 : decode cX0_weighEdges 152 = .ok (.iastore, 1) := by decide +kernel
theorem dX0_weighEdges_153 : decode cX0_weighEdges 153 = .ok (.aload_n 0, 1) := by decide +kernel
theorem dX0_weighEdges_154 : decode cX0_weighEdges 154 = .ok (.dup, 1) := by decide +kernel
theorem dX0_weighEdges_155 : decode cX0_weighEdges 155 = .ok (.getfield 100, 3) := by decide +kernel
theorem dX0_weighEdges_158 : decode cX0_weighEdges 158 = .ok (.iconst 1, 1) := by decide +kernel
theorem dX0_weighEdges_159 : decode cX0_weighEdges 159 = .ok (.iadd, 1) := by decide +kernel
theorem dX0_weighEdges_160 : decode cX0_weighEdges 160 = .ok (.putfield 100, 3) := by decide +kernel
theorem dX0_weighEdges_163 : decode cX0_weighEdges 163 = .ok (.aload_n 0, 1) := by decide +kernel
theorem dX0_weighEdges_164 : decode cX0_weighEdges 164 = .ok (.dup, 1) := by decide +kernel
theorem dX0_weighEdges_165 : decode cX0_weighEdges 165 = .ok (.getfield 70, 3) := by decide +kernel
theorem dX0_weighEdges_168 : decode cX0_weighEdges 168 = .ok (.iload 5, 2) := by decide +kernel
theorem dX0_weighEdges_170 : decode cX0_weighEdges 170 = .ok (.ior, 1) := by decide +kernel
theorem dX0_weighEdges_171 : decode cX0_weighEdges 171 = .ok (.putfield 70, 3) := by decide +kernel
theorem dX0_weighEdges_174 : decode cX0_weighEdges 174 = .ok (.goto 20, 3) := by decide +kernel
theorem dX0_weighEdges_177 : decode cX0_weighEdges 177 = .ok (.aload_n 0, 1) := by decide +kernel
theorem dX0_weighEdges_178 : decode cX0_weighEdges 178 = .ok (.getfield 15, 3) := by decide +kernel
theorem dX0_weighEdges_181 : decode cX0_weighEdges 181 = .ok (.iload_n 2, 1) := by decide +kernel
theorem dX0_weighEdges_182 : decode cX0_weighEdges 182 = .ok (.iconst 2, 1) := by decide +kernel
theorem dX0_weighEdges_183 : decode cX0_weighEdges 183 = .ok (.iastore, 1) := by decide +kernel
theorem dX0_weighEdges_184 : decode cX0_weighEdges 184 = .ok (.aload_n 0, 1) := by decide +kernel
theorem dX0_weighEdges_185 : decode cX0_weighEdges 185 = .ok (.dup, 1) := by decide +kernel
theorem dX0_weighEdges_186 : decode cX0_weighEdges 186 = .ok (.getfield 58, 3) := by decide +kernel
theorem dX0_weighEdges_189 : decode cX0_weighEdges 189 = .ok (.iconst 1, 1) := by decide +kernel
theorem dX0_weighEdges_190 : decode cX0_weighEdges 190 = .ok (.iadd, 1) := by decide +kernel
theorem dX0_weighEdges_191 : decode cX0_weighEdges 191 = .ok (.putfield 58, 3) := by decide +kernel
theorem dX0_weighEdges_194 : decode cX0_weighEdges 194 = .ok (.iinc 2 1, 3) := by decide +kernel
theorem dX0_weighEdges_197 : decode cX0_weighEdges 197 = .ok (.goto (-168), 3) := by decide +kernel
theorem dX0_weighEdges_200 : decode cX0_weighEdges 200 = .ok (.return_, 1) := by decide +kernel
theorem dX1_init_0 : decode cX1_init 0 = .ok (.aload_n 0, 1) := by decide +kernel
theorem dX1_init_1 : decode cX1_init 1 = .ok (.invokespecial 3, 3) := by decide +kernel
theorem dX1_init_4 : decode cX1_init 4 = .ok (.aload_n 0, 1) := by decide +kernel
theorem dX1_init_5 : decode cX1_init 5 = .ok (.bipush 8, 2) := by decide +kernel
theorem dX1_init_7 : decode cX1_init 7 = .ok (.newarray .int, 2) := by decide +kernel
theorem dX1_init_9 : decode cX1_init 9 = .ok (.putfield 9, 3) := by decide +kernel
theorem dX1_init_12 : decode cX1_init 12 = .ok (.aload_n 0, 1) := by decide +kernel
theorem dX1_init_13 : decode cX1_init 13 = .ok (.bipush 8, 2) := by decide +kernel
theorem dX1_init_15 : decode cX1_init 15 = .ok (.newarray .int, 2) := by decide +kernel
theorem dX1_init_17 : decode cX1_init 17 = .ok (.putfield 15, 3) := by decide +kernel
theorem dX1_init_20 : decode cX1_init 20 = .ok (.aload_n 0, 1) := by decide +kernel
theorem dX1_init_21 : decode cX1_init 21 = .ok (.bipush 8, 2) := by decide +kernel
theorem dX1_init_23 : decode cX1_init 23 = .ok (.newarray .int, 2) := by decide +kernel
theorem dX1_init_25 : decode cX1_init 25 = .ok (.putfield 18, 3) := by decide +kernel
theorem dX1_init_28 : decode cX1_init 28 = .ok (.return_, 1) := by decide +kernel
theorem dX1_has_0 : decode cX1_has 0 = .ok (.iload_n 1, 1) := by decide +kernel
theorem dX1_has_1 : decode cX1_has 1 = .ok (.ifCond .lt 15, 3) := by decide +kernel
theorem dX1_has_4 : decode cX1_has 4 = .ok (.iload_n 1, 1) := by decide +kernel
theorem dX1_has_5 : decode cX1_has 5 = .ok (.aload_n 0, 1) := by decide +kernel
theorem dX1_has_6 : decode cX1_has 6 = .ok (.getfield 21, 3) := by decide +kernel
theorem dX1_has_9 : decode cX1_has 9 = .ok (.if_icmp .ge 7, 3) := by decide +kernel
theorem dX1_has_12 : decode cX1_has 12 = .ok (.iconst 1, 1) := by decide +kernel
theorem dX1_has_13 : decode cX1_has 13 = .ok (.goto 4, 3) := by decide +kernel
theorem dX1_has_16 : decode cX1_has 16 = .ok (.iconst 0, 1) := by decide +kernel
theorem dX1_has_17 : decode cX1_has 17 = .ok (.ireturn, 1) := by decide +kernel
theorem dX1_grow_0 : decode cX1_grow 0 = .ok (.aload_n 0, 1) := by decide +kernel
theorem dX1_grow_1 : decode cX1_grow 1 = .ok (.getfield 21, 3) := by decide +kernel
theorem dX1_grow_4 : decode cX1_grow 4 = .ok (.bipush 8, 2) := by decide +kernel
theorem dX1_grow_6 : decode cX1_grow 6 = .ok (.if_icmp .lt 5, 3) := by decide +kernel
theorem dX1_grow_9 : decode cX1_grow 9 = .ok (.iconst 0, 1) := by decide +kernel
theorem dX1_grow_10 : decode cX1_grow 10 = .ok (.ireturn, 1) := by decide +kernel
theorem dX1_grow_11 : decode cX1_grow 11 = .ok (.aload_n 0, 1) := by decide +kernel
theorem dX1_grow_12 : decode cX1_grow 12 = .ok (.getfield 9, 3) := by decide +kernel
theorem dX1_grow_15 : decode cX1_grow 15 = .ok (.aload_n 0, 1) := by decide +kernel
theorem dX1_grow_16 : decode cX1_grow 16 = .ok (.getfield 21, 3) := by decide +kernel
theorem dX1_grow_19 : decode cX1_grow 19 = .ok (.iload_n 1, 1) := by decide +kernel
theorem dX1_grow_20 : decode cX1_grow 20 = .ok (.iastore, 1) := by decide +kernel
theorem dX1_grow_21 : decode cX1_grow 21 = .ok (.aload_n 0, 1) := by decide +kernel
theorem dX1_grow_22 : decode cX1_grow 22 = .ok (.getfield 15, 3) := by decide +kernel
theorem dX1_grow_25 : decode cX1_grow 25 = .ok (.aload_n 0, 1) := by decide +kernel
theorem dX1_grow_26 : decode cX1_grow 26 = .ok (.getfield 21, 3) := by decide +kernel
theorem dX1_grow_29 : decode cX1_grow 29 = .ok (.iconst 0, 1) := by decide +kernel
theorem dX1_grow_30 : decode cX1_grow 30 = .ok (.iastore, 1) := by decide +kernel
theorem dX1_grow_31 : decode cX1_grow 31 = .ok (.aload_n 0, 1) := by decide +kernel
theorem dX1_grow_32 : decode cX1_grow 32 = .ok (.getfield 18, 3) := by decide +kernel
theorem dX1_grow_35 : decode cX1_grow 35 = .ok (.aload_n 0, 1) := by decide +kernel
theorem dX1_grow_36 : decode cX1_grow 36 = .ok (.getfield 21, 3) := by decide +kernel
theorem dX1_grow_39 : decode cX1_grow 39 = .ok (.iconst 0, 1) := by decide +kernel
theorem dX1_grow_40 : decode cX1_grow 40 = .ok (.iastore, 1) := by decide +kernel
theorem dX1_grow_41 : decode cX1_grow 41 = .ok (.aload_n 0, 1) := by decide +kernel
theorem dX1_grow_42 : decode cX1_grow 42 = .ok (.dup, 1) := by decide +kernel
theorem dX1_grow_43 : decode cX1_grow 43 = .ok (.getfield 21, 3) := by decide +kernel
theorem dX1_grow_46 : decode cX1_grow 46 = .ok (.iconst 1, 1) := by decide +kernel
theorem dX1_grow_47 : decode cX1_grow 47 = .ok (.iadd, 1) := by decide +kernel
theorem dX1_grow_48 : decode cX1_grow 48 = .ok (.putfield 21, 3) := by decide +kernel
theorem dX1_grow_51 : decode cX1_grow 51 = .ok (.iconst 1, 1) := by decide +kernel
theorem dX1_grow_52 : decode cX1_grow 52 = .ok (.ireturn, 1) := by decide +kernel
theorem dX1_target_0 : decode cX1_target 0 = .ok (.aload_n 0, 1) := by decide +kernel
theorem dX1_target_1 : decode cX1_target 1 = .ok (.iload_n 1, 1) := by decide +kernel
theorem dX1_target_2 : decode cX1_target 2 = .ok (.invokevirtual 25, 3) := by decide +kernel
theorem dX1_target_5 : decode cX1_target 5 = .ok (.ifCond .ne 5, 3) := by decide +kernel
theorem dX1_target_8 : decode cX1_target 8 = .ok (.iconst (-1), 1) := by decide +kernel
theorem dX1_target_9 : decode cX1_target 9 = .ok (.ireturn, 1) := by decide +kernel
theorem dX1_target_10 : decode cX1_target 10 = .ok (.iload_n 2, 1) := by decide +kernel
theorem dX1_target_11 : decode cX1_target 11 = .ok (.ifCond .ne 12, 3) := by decide +kernel
theorem dX1_target_14 : decode cX1_target 14 = .ok (.aload_n 0, 1) := by decide +kernel
theorem dX1_target_15 : decode cX1_target 15 = .ok (.getfield 15, 3) := by decide +kernel
theorem dX1_target_18 : decode cX1_target 18 = .ok (.iload_n 1, 1) := by decide +kernel
theorem dX1_target_19 : decode cX1_target 19 = .ok (.iaload, 1) := by decide +kernel
theorem dX1_target_20 : decode cX1_target 20 = .ok (.goto 9, 3) := by decide +kernel
theorem dX1_target_23 : decode cX1_target 23 = .ok (.aload_n 0, 1) := by decide +kernel
theorem dX1_target_24 : decode cX1_target 24 = .ok (.getfield 18, 3) := by decide +kernel
theorem dX1_target_27 : decode cX1_target 27 = .ok (.iload_n 1, 1) := by decide +kernel
theorem dX1_target_28 : decode cX1_target 28 = .ok (.iaload, 1) := by decide +kernel
theorem dX1_target_29 : decode cX1_target 29 = .ok (.ireturn, 1) := by decide +kernel
theorem dX1_put_0 : decode cX1_put 0 = .ok (.aload_n 0, 1) := by decide +kernel
theorem dX1_put_1 : decode cX1_put 1 = .ok (.iload_n 1, 1) := by decide +kernel
theorem dX1_put_2 : decode cX1_put 2 = .ok (.invokevirtual 25, 3) := by decide +kernel
theorem dX1_put_5 : decode cX1_put 5 = .ok (.ifCond .ne 4, 3) := by decide +kernel
theorem dX1_put_8 : decode cX1_put 8 = .ok (.return_, 1) := by decide +kernel
theorem dX1_put_9 : decode cX1_put 9 = .ok (.iload_n 2, 1) := by decide +kernel
theorem dX1_put_10 : decode cX1_put 10 = .ok (.ifCond .ne 13, 3) := by decide +kernel
theorem dX1_put_13 : decode cX1_put 13 = .ok (.aload_n 0, 1) := by decide +kernel
theorem dX1_put_14 : decode cX1_put 14 = .ok (.getfield 15, 3) := by decide +kernel
theorem dX1_put_17 : decode cX1_put 17 = .ok (.iload_n 1, 1) := by decide +kernel
theorem dX1_put_18 : decode cX1_put 18 = .ok (.iload_n 3, 1) := by decide +kernel
theorem dX1_put_19 : decode cX1_put 19 = .ok (.iastore, 1) := by decide +kernel
theorem dX1_put_20 : decode cX1_put 20 = .ok (.goto 10, 3) := by decide +kernel
theorem dX1_put_23 : decode cX1_put 23 = .ok (.aload_n 0, 1) := by decide +kernel
theorem dX1_put_24 : decode cX1_put 24 = .ok (.getfield 18, 3) := by decide +kernel
theorem dX1_put_27 : decode cX1_put 27 = .ok (.iload_n 1, 1) := by decide +kernel
theorem dX1_put_28 : decode cX1_put 28 = .ok (.iload_n 3, 1) := by decide +kernel
theorem dX1_put_29 : decode cX1_put 29 = .ok (.iastore, 1) := by decide +kernel
theorem dX1_put_30 : decode cX1_put 30 = .ok (.return_, 1) := by decide +kernel
theorem dX1_copyFrom_0 : decode cX1_copyFrom 0 = .ok (.aload_n 0, 1) := by decide +kernel
theorem dX1_copyFrom_1 : decode cX1_copyFrom 1 = .ok (.aload_n 1, 1) := by decide +kernel
theorem dX1_copyFrom_2 : decode cX1_copyFrom 2 = .ok (.getfield 21, 3) := by decide +kernel
theorem dX1_copyFrom_5 : decode cX1_copyFrom 5 = .ok (.putfield 21, 3) := by decide +kernel
theorem dX1_copyFrom_8 : decode cX1_copyFrom 8 = .ok (.aload_n 1, 1) := by decide +kernel
theorem dX1_copyFrom_9 : decode cX1_copyFrom 9 = .ok (.getfield 9, 3) := by decide +kernel
theorem dX1_copyFrom_12 : decode cX1_copyFrom 12 = .ok (.iconst 0, 1) := by decide +kernel
theorem dX1_copyFrom_13 : decode cX1_copyFrom 13 = .ok (.aload_n 0, 1) := by decide +kernel
theorem dX1_copyFrom_14 : decode cX1_copyFrom 14 = .ok (.getfield 9, 3) := by decide +kernel
theorem dX1_copyFrom_17 : decode cX1_copyFrom 17 = .ok (.iconst 0, 1) := by decide +kernel
theorem dX1_copyFrom_18 : decode cX1_copyFrom 18 = .ok (.bipush 8, 2) := by decide +kernel
theorem dX1_copyFrom_20 : decode cX1_copyFrom 20 = .ok (.invokestatic 29, 3) := by decide +kernel
theorem dX1_copyFrom_23 : decode cX1_copyFrom 23 = .ok (.aload_n 1, 1) := by decide +kernel
theorem dX1_copyFrom_24 : decode cX1_copyFrom 24 = .ok (.getfield 15, 3) := by decide +kernel
theorem dX1_copyFrom_27 : decode cX1_copyFrom 27 = .ok (.iconst 0, 1) := by decide +kernel
theorem dX1_copyFrom_28 : decode cX1_copyFrom 28 = .ok (.aload_n 0, 1) := by decide +kernel
theorem dX1_copyFrom_29 : decode cX1_copyFrom 29 = .ok (.getfield 15, 3) := by decide +kernel
theorem dX1_copyFrom_32 : decode cX1_copyFrom 32 = .ok (.iconst 0, 1) := by decide +kernel
theorem dX1_copyFrom_33 : decode cX1_copyFrom 33 = .ok (.bipush 8, 2) := by decide +kernel
theorem dX1_copyFrom_35 : decode cX1_copyFrom 35 = .ok (.invokestatic 29, 3) := by decide +kernel
theorem dX1_copyFrom_38 : decode cX1_copyFrom 38 = .ok (.aload_n 1, 1) := by decide +kernel
theorem dX1_copyFrom_39 : decode cX1_copyFrom 39 = .ok (.getfield 18, 3) := by decide +kernel
theorem dX1_copyFrom_42 : decode cX1_copyFrom 42 = .ok (.iconst 0, 1) := by decide +kernel
theorem dX1_copyFrom_43 : decode cX1_copyFrom 43 = .ok (.aload_n 0, 1) := by decide +kernel
theorem dX1_copyFrom_44 : decode cX1_copyFrom 44 = .ok (.getfield 18, 3) := by decide +kernel
theorem dX1_copyFrom_47 : decode cX1_copyFrom 47 = .ok (.iconst 0, 1) := by decide +kernel
theorem dX1_copyFrom_48 : decode cX1_copyFrom 48 = .ok (.bipush 8, 2) := by decide +kernel
theorem dX1_copyFrom_50 : decode cX1_copyFrom 50 = .ok (.invokestatic 29, 3) := by decide +kernel
theorem dX1_copyFrom_53 : decode cX1_copyFrom 53 = .ok (.return_, 1) := by decide +kernel
theorem dX2_init_0 : decode cX2_init 0 = .ok (.aload_n 0, 1) := by decide +kernel
theorem dX2_init_1 : decode cX2_init 1 = .ok (.invokespecial 3, 3) := by decide +kernel
theorem dX2_init_4 : decode cX2_init 4 = .ok (.aload_n 0, 1) := by decide +kernel
theorem dX2_init_5 : decode cX2_init 5 = .ok (.bipush 34, 2) := by decide +kernel
theorem dX2_init_7 : decode cX2_init 7 = .ok (.newarray .int, 2) := by decide +kernel
theorem dX2_init_9 : decode cX2_init 9 = .ok (.putfield 9, 3) := by decide +kernel
theorem dX2_init_12 : decode cX2_init 12 = .ok (.return_, 1) := by decide +kernel
theorem dX2_add_0 : decode cX2_add 0 = .ok (.aload_n 0, 1) := by decide +kernel
theorem dX2_add_1 : decode cX2_add 1 = .ok (.getfield 15, 3) := by decide +kernel
theorem dX2_add_4 : decode cX2_add 4 = .ok (.aload_n 0, 1) := by decide +kernel
theorem dX2_add_5 : decode cX2_add 5 = .ok (.getfield 9, 3) := by decide +kernel
theorem dX2_add_8 : decode cX2_add 8 = .ok (.arraylength, 1) := by decide +kernel
theorem dX2_add_9 : decode cX2_add 9 = .ok (.if_icmp .lt 5, 3) := by decide +kernel
theorem dX2_add_12 : decode cX2_add 12 = .ok (.iconst 0, 1) := by decide +kernel
theorem dX2_add_13 : decode cX2_add 13 = .ok (.ireturn, 1) := by decide +kernel
theorem dX2_add_14 : decode cX2_add 14 = .ok (.aload_n 0, 1) := by decide +kernel
theorem dX2_add_15 : decode cX2_add 15 = .ok (.getfield 9, 3) := by decide +kernel
theorem dX2_add_18 : decode cX2_add 18 = .ok (.aload_n 0, 1) := by decide +kernel
theorem dX2_add_19 : decode cX2_add 19 = .ok (.getfield 15, 3) := by decide +kernel
theorem dX2_add_22 : decode cX2_add 22 = .ok (.iload_n 1, 1) := by decide +kernel
theorem dX2_add_23 : decode cX2_add 23 = .ok (.iastore, 1) := by decide +kernel
theorem dX2_add_24 : decode cX2_add 24 = .ok (.aload_n 0, 1) := by decide +kernel
theorem dX2_add_25 : decode cX2_add 25 = .ok (.dup, 1) := by decide +kernel
theorem dX2_add_26 : decode cX2_add 26 = .ok (.getfield 15, 3) := by decide +kernel
theorem dX2_add_29 : decode cX2_add 29 = .ok (.iconst 1, 1) := by decide +kernel
theorem dX2_add_30 : decode cX2_add 30 = .ok (.iadd, 1) := by decide +kernel
theorem dX2_add_31 : decode cX2_add 31 = .ok (.putfield 15, 3) := by decide +kernel
theorem dX2_add_34 : decode cX2_add 34 = .ok (.iconst 1, 1) := by decide +kernel
theorem dX2_add_35 : decode cX2_add 35 = .ok (.ireturn, 1) := by decide +kernel
theorem dX2_readInto_0 : decode cX2_readInto 0 = .ok (.aload_n 1, 1) := by decide +kernel
theorem dX2_readInto_1 : decode cX2_readInto 1 = .ok (.iconst 0, 1) := by decide +kernel
theorem dX2_readInto_2 : decode cX2_readInto 2 = .ok (.putfield 19, 3) := by decide +kernel
theorem dX2_readInto_5 : decode cX2_readInto 5 = .ok (.aload_n 0, 1) := by decide +kernel
theorem dX2_readInto_6 : decode cX2_readInto 6 = .ok (.iconst 0, 1) := by decide +kernel
theorem dX2_readInto_7 : decode cX2_readInto 7 = .ok (.putfield 24, 3) := by decide +kernel
theorem dX2_readInto_10 : decode cX2_readInto 10 = .ok (.aload_n 0, 1) := by decide +kernel
theorem dX2_readInto_11 : decode cX2_readInto 11 = .ok (.iconst 0, 1) := by decide +kernel
theorem dX2_readInto_12 : decode cX2_readInto 12 = .ok (.putfield 28, 3) := by decide +kernel
theorem dX2_readInto_15 : decode cX2_readInto 15 = .ok (.iconst 1, 1) := by decide +kernel
theorem dX2_readInto_16 : decode cX2_readInto 16 = .ok (.istore_n 2, 1) := by decide +kernel
theorem dX2_readInto_17 : decode cX2_readInto 17 = .ok (.iconst 0, 1) := by decide +kernel
theorem dX2_readInto_18 : decode cX2_readInto 18 = .ok (.istore_n 3, 1) := by decide +kernel
theorem dX2_readInto_19 : decode cX2_readInto 19 = .ok (.iconst 0, 1) := by decide +kernel
theorem dX2_readInto_20 : decode cX2_readInto 20 = .ok (.istore 4, 2) := by decide +kernel
theorem dX2_readInto_22 : decode cX2_readInto 22 = .ok (.iconst 0, 1) := by decide +kernel
theorem dX2_readInto_23 : decode cX2_readInto 23 = .ok (.istore 5, 2) := by decide +kernel
theorem dX2_readInto_25 : decode cX2_readInto 25 = .ok (.iload 5, 2) := by decide +kernel
theorem dX2_readInto_27 : decode cX2_readInto 27 = .ok (.aload_n 0, 1) := by decide +kernel
theorem dX2_readInto_28 : decode cX2_readInto 28 = .ok (.getfield 15, 3) := by decide +kernel
theorem dX2_readInto_31 : decode cX2_readInto 31 = .ok (.if_icmp .ge 148, 3) := by decide +kernel
theorem dX2_readInto_34 : decode cX2_readInto 34 = .ok (.aload_n 0, 1) := by decide +kernel
theorem dX2_readInto_35 : decode cX2_readInto 35 = .ok (.getfield 9, 3) := by decide +kernel
theorem dX2_readInto_38 : decode cX2_readInto 38 = .ok (.iload 5, 2) := by decide +kernel
theorem dX2_readInto_40 : decode cX2_readInto 40 = .ok (.iaload, 1) := by decide +kernel
theorem dX2_readInto_41 : decode cX2_readInto 41 = .ok (.istore 6, 2) := by decide +kernel
theorem dX2_readInto_43 : decode cX2_readInto 43 = .ok (.iload_n 3, 1) := by decide +kernel
theorem dX2_readInto_44 : decode cX2_readInto 44 = .ok (.iload 4, 2) := by decide +kernel
theorem dX2_readInto_46 : decode cX2_readInto 46 = .ok (.if_icmp .ge 58, 3) := by decide +kernel
theorem dX2_readInto_49 : decode cX2_readInto 49 = .ok (.iload 6, 2) := by decide +kernel
theorem dX2_readInto_51 : decode cX2_readInto 51 = .ok (.bipush 48, 2) := by decide +kernel
theorem dX2_readInto_53 : decode cX2_readInto 53 = .ok (.if_icmp .lt 10, 3) := by decide +kernel
theorem dX2_readInto_56 : decode cX2_readInto 56 = .ok (.iload 6, 2) := by decide +kernel
theorem dX2_readInto_58 : decode cX2_readInto 58 = .ok (.bipush 55, 2) := by decide +kernel
theorem dX2_readInto_60 : decode cX2_readInto 60 = .ok (.if_icmp .le 6, 3) := by decide +kernel
theorem dX2_readInto_63 : decode cX2_readInto 63 = .ok (.iload 5, 2) := by decide +kernel
theorem dX2_readInto_65 : decode cX2_readInto 65 = .ok (.ireturn, 1) := by decide +kernel
theorem dX2_readInto_66 : decode cX2_readInto 66 = .ok (.aload_n 1, 1) := by decide +kernel
theorem dX2_readInto_67 : decode cX2_readInto 67 = .ok (.aload_n 1, 1) := by decide +kernel
theorem dX2_readInto_68 : decode cX2_readInto 68 = .ok (.getfield 19, 3) := by decide +kernel
theorem dX2_readInto_71 : decode cX2_readInto 71 = .ok (.iconst 1, 1) := by decide +kernel
theorem dX2_readInto_72 : decode cX2_readInto 72 = .ok (.isub, 1) := by decide +kernel
theorem dX2_readInto_73 : decode cX2_readInto 73 = .ok (.iload_n 3, 1) := by decide +kernel
theorem dX2_readInto_74 : decode cX2_readInto 74 = .ok (.iload 6, 2) := by decide +kernel
theorem dX2_readInto_76 : decode cX2_readInto 76 = .ok (.bipush 48, 2) := by decide +kernel
theorem dX2_readInto_78 : decode cX2_readInto 78 = .ok (.isub, 1) := by decide +kernel
theorem dX2_readInto_79 : decode cX2_readInto 79 = .ok (.invokevirtual 31, 3) := by decide +kernel
theorem dX2_readInto_82 : decode cX2_readInto 82 = .ok (.aload_n 0, 1) := by decide +kernel
theorem dX2_readInto_83 : decode cX2_readInto 83 = .ok (.aload_n 0, 1) := by decide +kernel
theorem dX2_readInto_84 : decode cX2_readInto 84 = .ok (.getfield 28, 3) := by decide +kernel
theorem dX2_readInto_87 : decode cX2_readInto 87 = .ok (.iload 6, 2) := by decide +kernel
theorem dX2_readInto_89 : decode cX2_readInto 89 = .ok (.bipush 48, 2) := by decide +kernel
theorem dX2_readInto_91 : decode cX2_readInto 91 = .ok (.isub, 1) := by decide +kernel
theorem dX2_readInto_92 : decode cX2_readInto 92 = .ok (.invokestatic 35, 3) := by decide +kernel
theorem dX2_readInto_95 : decode cX2_readInto 95 = .ok (.putfield 28, 3) := by decide +kernel
theorem dX2_readInto_98 : decode cX2_readInto 98 = .ok (.iinc 3 1, 3) := by decide +kernel
theorem dX2_readInto_101 : decode cX2_readInto 101 = .ok (.goto 72, 3) := by decide +kernel
theorem dX2_readInto_104 : decode cX2_readInto 104 = .ok (.iload_n 2, 1) := by decide +kernel
theorem dX2_readInto_105 : decode cX2_readInto 105 = .ok (.ifCond .eq 47, 3) := by decide +kernel
theorem dX2_readInto_108 : decode cX2_readInto 108 = .ok (.ldc 41, 2) := by decide +kernel
theorem dX2_readInto_110 : decode cX2_readInto 110 = .ok (.iload 6, 2) := by decide +kernel
theorem dX2_readInto_112 : decode cX2_readInto 112 = .ok (.i2c, 1) := by decide +kernel
theorem dX2_readInto_113 : decode cX2_readInto 113 = .ok (.invokevirtual 43, 3) := by decide +kernel
theorem dX2_readInto_116 : decode cX2_readInto 116 = .ok (.istore 7, 2) := by decide +kernel
theorem dX2_readInto_118 : decode cX2_readInto 118 = .ok (.iload 7, 2) := by decide +kernel
theorem dX2_readInto_120 : decode cX2_readInto 120 = .ok (.invokestatic 49, 3) := by decide +kernel
theorem dX2_readInto_123 : decode cX2_readInto 123 = .ok (.ifCond .eq 12, 3) := by decide +kernel
theorem dX2_readInto_126 : decode cX2_readInto 126 = .ok (.aload_n 1, 1) := by decide +kernel
theorem dX2_readInto_127 : decode cX2_readInto 127 = .ok (.iload 7, 2) := by decide +kernel
theorem dX2_readInto_129 : decode cX2_readInto 129 = .ok (.invokevirtual 53, 3) := by decide +kernel
theorem dX2_readInto_132 : decode cX2_readInto 132 = .ok (.ifCond .ne 6, 3) := by decide +kernel
theorem dX2_readInto_135 : decode cX2_readInto 135 = .ok (.iload 5, 2) := by decide +kernel
theorem dX2_readInto_137 : decode cX2_readInto 137 = .ok (.ireturn, 1) := by decide +kernel
theorem dX2_readInto_138 : decode cX2_readInto 138 = .ok (.iconst 0, 1) := by decide +kernel
theorem dX2_readInto_139 : decode cX2_readInto 139 = .ok (.istore_n 3, 1) := by decide +kernel
theorem dX2_readInto_140 : decode cX2_readInto 140 = .ok (.iload 7, 2) := by decide +kernel
theorem dX2_readInto_142 : decode cX2_readInto 142 = .ok (.invokestatic 56, 3) := by decide +kernel
theorem dX2_readInto_145 : decode cX2_readInto 145 = .ok (.istore 4, 2) := by decide +kernel
theorem dX2_readInto_147 : decode cX2_readInto 147 = .ok (.iconst 0, 1) := by decide +kernel
theorem dX2_readInto_148 : decode cX2_readInto 148 = .ok (.istore_n 2, 1) := by decide +kernel
theorem dX2_readInto_149 : decode cX2_readInto 149 = .ok (.goto 24, 3) := by decide +kernel
theorem dX2_readInto_152 : decode cX2_readInto 152 = .ok (.iload 6, 2) := by decide +kernel
theorem dX2_readInto_154 : decode cX2_readInto 154 = .ok (.bipush 44, 2) := by decide +kernel
theorem dX2_readInto_156 : decode cX2_readInto 156 = .ok (.if_icmp .ne 12, 3) := by decide +kernel
theorem dX2_readInto_159 : decode cX2_readInto 159 = .ok (.aload_n 1, 1) := by decide +kernel
theorem dX2_readInto_160 : decode cX2_readInto 160 = .ok (.getfield 19, 3) := by decide +kernel
theorem dX2_readInto_163 : decode cX2_readInto 163 = .ok (.bipush 8, 2) := by decide +kernel
theorem dX2_readInto_165 : decode cX2_readInto 165 = .ok (.if_icmp .lt 6, 3) := by decide +kernel
theorem dX2_readInto_168 : decode cX2_readInto 168 = .ok (.iload 5, 2) := by decide +kernel
theorem dX2_readInto_170 : decode cX2_readInto 170 = .ok (.ireturn, 1) := by decide +kernel
theorem dX2_readInto_171 : decode cX2_readInto 171 = .ok (.iconst 1, 1) := by decide +kernel
theorem dX2_readInto_172 : decode cX2_readInto 172 = .ok (.istore_n 2, 1) := by decide +kernel
theorem dX2_readInto_173 : decode cX2_readInto 173 = .ok (.iinc 5 1, 3) := by decide +kernel
theorem dX2_readInto_176 : decode cX2_readInto 176 = .ok (.goto (-151), 3) := by decide +kernel
theorem dX2_readInto_179 : decode cX2_readInto 179 = .ok (.aload_n 0, 1) := by decide +kernel
theorem dX2_readInto_180 : decode cX2_readInto 180 = .ok (.iload_n 2, 1) := by decide +kernel
theorem dX2_readInto_181 : decode cX2_readInto 181 = .ok (.ifCond .ne 13, 3) := by decide +kernel
theorem dX2_readInto_184 : decode cX2_readInto 184 = .ok (.iload_n 3, 1) := by decide +kernel
theorem dX2_readInto_185 : decode cX2_readInto 185 = .ok (.iload 4, 2) := by decide +kernel
theorem dX2_readInto_187 : decode cX2_readInto 187 = .ok (.if_icmp .ne 7, 3) := by decide +kernel
theorem dX2_readInto_190 : decode cX2_readInto 190 = .ok (.iconst 1, 1) := by decide +kernel
theorem dX2_readInto_191 : decode cX2_readInto 191 = .ok (.goto 4, 3) := by decide +kernel
theorem dX2_readInto_194 : decode cX2_readInto 194 = .ok (.iconst 0, 1) := by decide +kernel
theorem dX2_readInto_195 : decode cX2_readInto 195 = .ok (.putfield 24, 3) := by decide +kernel
theorem dX2_readInto_198 : decode cX2_readInto 198 = .ok (.aload_n 0, 1) := by decide +kernel
theorem dX2_readInto_199 : decode cX2_readInto 199 = .ok (.getfield 15, 3) := by decide +kernel
theorem dX2_readInto_202 : decode cX2_readInto 202 = .ok (.ireturn, 1) := by decide +kernel
theorem dX3_init_0 : decode cX3_init 0 = .ok (.aload_n 0, 1) := by decide +kernel
theorem dX3_init_1 : decode cX3_init 1 = .ok (.invokespecial 3, 3) := by decide +kernel
theorem dX3_init_4 : decode cX3_init 4 = .ok (.aload_n 0, 1) := by decide +kernel
theorem dX3_init_5 : decode cX3_init 5 = .ok (.bipush 6, 2) := by decide +kernel
theorem dX3_init_7 : decode cX3_init 7 = .ok (.newarray .int, 2) := by decide +kernel
theorem dX3_init_9 : decode cX3_init 9 = .ok (.putfield 9, 3) := by decide +kernel
theorem dX3_init_12 : decode cX3_init 12 = .ok (.aload_n 0, 1) := by decide +kernel
theorem dX3_init_13 : decode cX3_init 13 = .ok (.bipush 6, 2) := by decide +kernel
theorem dX3_init_15 : decode cX3_init 15 = .ok (.newarray .int, 2) := by decide +kernel
theorem dX3_init_17 : decode cX3_init 17 = .ok (.putfield 15, 3) := by decide +kernel
theorem dX3_init_20 : decode cX3_init 20 = .ok (.aload_n 0, 1) := by decide +kernel
theorem dX3_init_21 : decode cX3_init 21 = .ok (.bipush 6, 2) := by decide +kernel
theorem dX3_init_23 : decode cX3_init 23 = .ok (.newarray .int, 2) := by decide +kernel
theorem dX3_init_25 : decode cX3_init 25 = .ok (.putfield 18, 3) := by decide +kernel
theorem dX3_init_28 : decode cX3_init 28 = .ok (.return_, 1) := by decide +kernel
theorem dX3_add_0 : decode cX3_add 0 = .ok (.aload_n 0, 1) := by decide +kernel
theorem dX3_add_1 : decode cX3_add 1 = .ok (.getfield 21, 3) := by decide +kernel
theorem dX3_add_4 : decode cX3_add 4 = .ok (.bipush 6, 2) := by decide +kernel
theorem dX3_add_6 : decode cX3_add 6 = .ok (.if_icmp .lt 5, 3) := by decide +kernel
theorem dX3_add_9 : decode cX3_add 9 = .ok (.iconst 0, 1) := by decide +kernel
theorem dX3_add_10 : decode cX3_add 10 = .ok (.ireturn, 1) := by decide +kernel
theorem dX3_add_11 : decode cX3_add 11 = .ok (.aload_n 0, 1) := by decide +kernel
theorem dX3_add_12 : decode cX3_add 12 = .ok (.getfield 9, 3) := by decide +kernel
theorem dX3_add_15 : decode cX3_add 15 = .ok (.aload_n 0, 1) := by decide +kernel
theorem dX3_add_16 : decode cX3_add 16 = .ok (.getfield 21, 3) := by decide +kernel
theorem dX3_add_19 : decode cX3_add 19 = .ok (.iload_n 1, 1) := by decide +kernel
theorem dX3_add_20 : decode cX3_add 20 = .ok (.iastore, 1) := by decide +kernel
theorem dX3_add_21 : decode cX3_add 21 = .ok (.aload_n 0, 1) := by decide +kernel
theorem dX3_add_22 : decode cX3_add 22 = .ok (.getfield 15, 3) := by decide +kernel
theorem dX3_add_25 : decode cX3_add 25 = .ok (.aload_n 0, 1) := by decide +kernel
theorem dX3_add_26 : decode cX3_add 26 = .ok (.getfield 21, 3) := by decide +kernel
theorem dX3_add_29 : decode cX3_add 29 = .ok (.iload_n 2, 1) := by decide +kernel
theorem dX3_add_30 : decode cX3_add 30 = .ok (.iastore, 1) := by decide +kernel
theorem dX3_add_31 : decode cX3_add 31 = .ok (.aload_n 0, 1) := by decide +kernel
theorem dX3_add_32 : decode cX3_add 32 = .ok (.getfield 18, 3) := by decide +kernel
theorem dX3_add_35 : decode cX3_add 35 = .ok (.aload_n 0, 1) := by decide +kernel
theorem dX3_add_36 : decode cX3_add 36 = .ok (.getfield 21, 3) := by decide +kernel
theorem dX3_add_39 : decode cX3_add 39 = .ok (.iload_n 3, 1) := by decide +kernel
theorem dX3_add_40 : decode cX3_add 40 = .ok (.iastore, 1) := by decide +kernel
theorem dX3_add_41 : decode cX3_add 41 = .ok (.aload_n 0, 1) := by decide +kernel
theorem dX3_add_42 : decode cX3_add 42 = .ok (.dup, 1) := by decide +kernel
theorem dX3_add_43 : decode cX3_add 43 = .ok (.getfield 21, 3) := by decide +kernel
theorem dX3_add_46 : decode cX3_add 46 = .ok (.iconst 1, 1) := by decide +kernel
theorem dX3_add_47 : decode cX3_add 47 = .ok (.iadd, 1) := by decide +kernel
theorem dX3_add_48 : decode cX3_add 48 = .ok (.putfield 21, 3) := by decide +kernel
theorem dX3_add_51 : decode cX3_add 51 = .ok (.iconst 1, 1) := by decide +kernel
theorem dX3_add_52 : decode cX3_add 52 = .ok (.ireturn, 1) := by decide +kernel
theorem dX3_copyFrom_0 : decode cX3_copyFrom 0 = .ok (.aload_n 0, 1) := by decide +kernel
theorem dX3_copyFrom_1 : decode cX3_copyFrom 1 = .ok (.aload_n 1, 1) := by decide +kernel
theorem dX3_copyFrom_2 : decode cX3_copyFrom 2 = .ok (.getfield 21, 3) := by decide +kernel
theorem dX3_copyFrom_5 : decode cX3_copyFrom 5 = .ok (.putfield 21, 3) := by decide +kernel
theorem dX3_copyFrom_8 : decode cX3_copyFrom 8 = .ok (.aload_n 1, 1) := by decide +kernel
theorem dX3_copyFrom_9 : decode cX3_copyFrom 9 = .ok (.getfield 9, 3) := by decide +kernel
theorem dX3_copyFrom_12 : decode cX3_copyFrom 12 = .ok (.iconst 0, 1) := by decide +kernel
theorem dX3_copyFrom_13 : decode cX3_copyFrom 13 = .ok (.aload_n 0, 1) := by decide +kernel
theorem dX3_copyFrom_14 : decode cX3_copyFrom 14 = .ok (.getfield 9, 3) := by decide +kernel
theorem dX3_copyFrom_17 : decode cX3_copyFrom 17 = .ok (.iconst 0, 1) := by decide +kernel
theorem dX3_copyFrom_18 : decode cX3_copyFrom 18 = .ok (.bipush 6, 2) := by decide +kernel
theorem dX3_copyFrom_20 : decode cX3_copyFrom 20 = .ok (.invokestatic 25, 3) := by decide +kernel
theorem dX3_copyFrom_23 : decode cX3_copyFrom 23 = .ok (.aload_n 1, 1) := by decide +kernel
theorem dX3_copyFrom_24 : decode cX3_copyFrom 24 = .ok (.getfield 15, 3) := by decide +kernel
theorem dX3_copyFrom_27 : decode cX3_copyFrom 27 = .ok (.iconst 0, 1) := by decide +kernel
theorem dX3_copyFrom_28 : decode cX3_copyFrom 28 = .ok (.aload_n 0, 1) := by decide +kernel
theorem dX3_copyFrom_29 : decode cX3_copyFrom 29 = .ok (.getfield 15, 3) := by decide +kernel
theorem dX3_copyFrom_32 : decode cX3_copyFrom 32 = .ok (.iconst 0, 1) := by decide +kernel
theorem dX3_copyFrom_33 : decode cX3_copyFrom 33 = .ok (.bipush 6, 2) := by decide +kernel
theorem dX3_copyFrom_35 : decode cX3_copyFrom 35 = .ok (.invokestatic 25, 3) := by decide +kernel
theorem dX3_copyFrom_38 : decode cX3_copyFrom 38 = .ok (.aload_n 1, 1) := by decide +kernel
theorem dX3_copyFrom_39 : decode cX3_copyFrom 39 = .ok (.getfield 18, 3) := by decide +kernel
theorem dX3_copyFrom_42 : decode cX3_copyFrom 42 = .ok (.iconst 0, 1) := by decide +kernel
theorem dX3_copyFrom_43 : decode cX3_copyFrom 43 = .ok (.aload_n 0, 1) := by decide +kernel
theorem dX3_copyFrom_44 : decode cX3_copyFrom 44 = .ok (.getfield 18, 3) := by decide +kernel
theorem dX3_copyFrom_47 : decode cX3_copyFrom 47 = .ok (.iconst 0, 1) := by decide +kernel
theorem dX3_copyFrom_48 : decode cX3_copyFrom 48 = .ok (.bipush 6, 2) := by decide +kernel
theorem dX3_copyFrom_50 : decode cX3_copyFrom 50 = .ok (.invokestatic 25, 3) := by decide +kernel
theorem dX3_copyFrom_53 : decode cX3_copyFrom 53 = .ok (.return_, 1) := by decide +kernel
theorem dX3_sortsOf_0 : decode cX3_sortsOf 0 = .ok (.bipush 31, 2) := by decide +kernel
theorem dX3_sortsOf_2 : decode cX3_sortsOf 2 = .ok (.istore_n 2, 1) := by decide +kernel
theorem dX3_sortsOf_3 : decode cX3_sortsOf 3 = .ok (.iconst 0, 1) := by decide +kernel
theorem dX3_sortsOf_4 : decode cX3_sortsOf 4 = .ok (.istore_n 3, 1) := by decide +kernel
theorem dX3_sortsOf_5 : decode cX3_sortsOf 5 = .ok (.iload_n 3, 1) := by decide +kernel
theorem dX3_sortsOf_6 : decode cX3_sortsOf 6 = .ok (.aload_n 0, 1) := by decide +kernel
theorem dX3_sortsOf_7 : decode cX3_sortsOf 7 = .ok (.getfield 21, 3) := by decide +kernel
theorem dX3_sortsOf_10 : decode cX3_sortsOf 10 = .ok (.if_icmp .ge 37, 3) := by decide +kernel
theorem dX3_sortsOf_13 : decode cX3_sortsOf 13 = .ok (.aload_n 0, 1) := by decide +kernel
theorem dX3_sortsOf_14 : decode cX3_sortsOf 14 = .ok (.getfield 9, 3) := by decide +kernel
theorem dX3_sortsOf_17 : decode cX3_sortsOf 17 = .ok (.iload_n 3, 1) := by decide +kernel
theorem dX3_sortsOf_18 : decode cX3_sortsOf 18 = .ok (.iaload, 1) := by decide +kernel
theorem dX3_sortsOf_19 : decode cX3_sortsOf 19 = .ok (.iload_n 1, 1) := by decide +kernel
theorem dX3_sortsOf_20 : decode cX3_sortsOf 20 = .ok (.if_icmp .ne 21, 3) := by decide +kernel
theorem dX3_sortsOf_23 : decode cX3_sortsOf 23 = .ok (.iload_n 2, 1) := by decide +kernel
theorem dX3_sortsOf_24 : decode cX3_sortsOf 24 = .ok (.aload_n 0, 1) := by decide +kernel
theorem dX3_sortsOf_25 : decode cX3_sortsOf 25 = .ok (.getfield 15, 3) := by decide +kernel
theorem dX3_sortsOf_28 : decode cX3_sortsOf 28 = .ok (.iload_n 3, 1) := by decide +kernel
theorem dX3_sortsOf_29 : decode cX3_sortsOf 29 = .ok (.iaload, 1) := by decide +kernel
theorem dX3_sortsOf_30 : decode cX3_sortsOf 30 = .ok (.aload_n 0, 1) := by decide +kernel
theorem dX3_sortsOf_31 : decode cX3_sortsOf 31 = .ok (.getfield 18, 3) := by decide +kernel
theorem dX3_sortsOf_34 : decode cX3_sortsOf 34 = .ok (.iload_n 3, 1) := by decide +kernel
theorem dX3_sortsOf_35 : decode cX3_sortsOf 35 = .ok (.iaload, 1) := by decide +kernel
theorem dX3_sortsOf_36 : decode cX3_sortsOf 36 = .ok (.invokestatic 31, 3) := by decide +kernel
theorem dX3_sortsOf_39 : decode cX3_sortsOf 39 = .ok (.iand, 1) := by decide +kernel
theorem dX3_sortsOf_40 : decode cX3_sortsOf 40 = .ok (.istore_n 2, 1) := by decide +kernel
theorem dX3_sortsOf_41 : decode cX3_sortsOf 41 = .ok (.iinc 3 1, 3) := by decide +kernel
theorem dX3_sortsOf_44 : decode cX3_sortsOf 44 = .ok (.goto (-39), 3) := by decide +kernel
theorem dX3_sortsOf_47 : decode cX3_sortsOf 47 = .ok (.iload_n 2, 1) := by decide +kernel
theorem dX3_sortsOf_48 : decode cX3_sortsOf 48 = .ok (.ireturn, 1) := by decide +kernel
theorem dX3_askFor_0 : decode cX3_askFor 0 = .ok (.aload_n 0, 1) := by decide +kernel
theorem dX3_askFor_1 : decode cX3_askFor 1 = .ok (.iload_n 1, 1) := by decide +kernel
theorem dX3_askFor_2 : decode cX3_askFor 2 = .ok (.invokevirtual 35, 3) := by decide +kernel
theorem dX3_askFor_5 : decode cX3_askFor 5 = .ok (.istore_n 2, 1) := by decide +kernel
theorem dX3_askFor_6 : decode cX3_askFor 6 = .ok (.iconst (-1), 1) := by decide +kernel
theorem dX3_askFor_7 : decode cX3_askFor 7 = .ok (.istore_n 3, 1) := by decide +kernel
theorem dX3_askFor_8 : decode cX3_askFor 8 = .ok (.bipush 6, 2) := by decide +kernel
theorem dX3_askFor_10 : decode cX3_askFor 10 = .ok (.istore 4, 2) := by decide +kernel
theorem dX3_askFor_12 : decode cX3_askFor 12 = .ok (.iconst 1, 1) := by decide +kernel
theorem dX3_askFor_13 : decode cX3_askFor 13 = .ok (.istore 5, 2) := by decide +kernel
theorem dX3_askFor_15 : decode cX3_askFor 15 = .ok (.iload 5, 2) := by decide +kernel
theorem dX3_askFor_17 : decode cX3_askFor 17 = .ok (.iconst 3, 1) := by decide +kernel
theorem dX3_askFor_18 : decode cX3_askFor 18 = .ok (.if_icmp .gt 64, 3) := by decide +kernel
theorem dX3_askFor_21 : decode cX3_askFor 21 = .ok (.iload_n 2, 1) := by decide +kernel
theorem dX3_askFor_22 : decode cX3_askFor 22 = .ok (.ifCond .eq 60, 3) := by decide +kernel
theorem dX3_askFor_25 : decode cX3_askFor 25 = .ok (.iconst 0, 1) := by decide +kernel
theorem dX3_askFor_26 : decode cX3_askFor 26 = .ok (.istore 6, 2) := by decide +kernel
theorem dX3_askFor_28 : decode cX3_askFor 28 = .ok (.iconst 0, 1) := by decide +kernel
theorem dX3_askFor_29 : decode cX3_askFor 29 = .ok (.istore 7, 2) := by decide +kernel
theorem dX3_askFor_31 : decode cX3_askFor 31 = .ok (.iload 7, 2) := by decide +kernel
theorem dX3_askFor_33 : decode cX3_askFor 33 = .ok (.iconst 2, 1) := by decide +kernel
theorem dX3_askFor_34 : decode cX3_askFor 34 = .ok (.if_icmp .gt 28, 3) := by decide +kernel
theorem dX3_askFor_37 : decode cX3_askFor 37 = .ok (.iload 6, 2) := by decide +kernel
theorem dX3_askFor_39 : decode cX3_askFor 39 = .ok (.iload_n 2, 1) := by decide +kernel
theorem dX3_askFor_40 : decode cX3_askFor 40 = .ok (.iload 5, 2) := by decide +kernel
theorem dX3_askFor_42 : decode cX3_askFor 42 = .ok (.iload 7, 2) := by decide +kernel
theorem dX3_askFor_44 : decode cX3_askFor 44 = .ok (.invokestatic 31, 3) := by decide +kernel
theorem dX3_askFor_47 : decode cX3_askFor 47 = .ok (.iand, 1) := by decide +kernel
theorem dX3_askFor_48 : decode cX3_askFor 48 = .ok (.invokestatic 39, 3) := by decide +kernel
theorem dX3_askFor_51 : decode cX3_askFor 51 = .ok (.invokestatic 44, 3) := by decide +kernel
theorem dX3_askFor_54 : decode cX3_askFor 54 = .ok (.istore 6, 2) := by decide +kernel
theorem dX3_askFor_56 : decode cX3_askFor 56 = .ok (.iinc 7 1, 3) := by decide +kernel
theorem dX3_askFor_59 : decode cX3_askFor 59 = .ok (.goto (-28), 3) := by decide +kernel
theorem dX3_askFor_62 : decode cX3_askFor 62 = .ok (.iload 6, 2) := by decide +kernel
theorem dX3_askFor_64 : decode cX3_askFor 64 = .ok (.iload 4, 2) := by decide +kernel
theorem dX3_askFor_66 : decode cX3_askFor 66 = .ok (.if_icmp .ge 10, 3) := by decide +kernel
theorem dX3_askFor_69 : decode cX3_askFor 69 = .ok (.iload 6, 2) := by decide +kernel
theorem dX3_askFor_71 : decode cX3_askFor 71 = .ok (.istore 4, 2) := by decide +kernel
theorem dX3_askFor_73 : decode cX3_askFor 73 = .ok (.iload 5, 2) := by decide +kernel
theorem dX3_askFor_75 : decode cX3_askFor 75 = .ok (.istore_n 3, 1) := by decide +kernel
theorem dX3_askFor_76 : decode cX3_askFor 76 = .ok (.iinc 5 1, 3) := by decide +kernel
theorem dX3_askFor_79 : decode cX3_askFor 79 = .ok (.goto (-64), 3) := by decide +kernel
theorem dX3_askFor_82 : decode cX3_askFor 82 = .ok (.iload_n 3, 1) := by decide +kernel
theorem dX3_askFor_83 : decode cX3_askFor 83 = .ok (.ireturn, 1) := by decide +kernel
theorem dX3_sortsThatDo_0 : decode cX3_sortsThatDo 0 = .ok (.iconst 0, 1) := by decide +kernel
theorem dX3_sortsThatDo_1 : decode cX3_sortsThatDo 1 = .ok (.istore_n 2, 1) := by decide +kernel
theorem dX3_sortsThatDo_2 : decode cX3_sortsThatDo 2 = .ok (.iconst 0, 1) := by decide +kernel
theorem dX3_sortsThatDo_3 : decode cX3_sortsThatDo 3 = .ok (.istore_n 3, 1) := by decide +kernel
theorem dX3_sortsThatDo_4 : decode cX3_sortsThatDo 4 = .ok (.iload_n 3, 1) := by decide +kernel
theorem dX3_sortsThatDo_5 : decode cX3_sortsThatDo 5 = .ok (.iconst 5, 1) := by decide +kernel
theorem dX3_sortsThatDo_6 : decode cX3_sortsThatDo 6 = .ok (.if_icmp .ge 35, 3) := by decide +kernel
theorem dX3_sortsThatDo_9 : decode cX3_sortsThatDo 9 = .ok (.iload_n 3, 1) := by decide +kernel
theorem dX3_sortsThatDo_10 : decode cX3_sortsThatDo 10 = .ok (.iload_n 0, 1) := by decide +kernel
theorem dX3_sortsThatDo_11 : decode cX3_sortsThatDo 11 = .ok (.iconst 0, 1) := by decide +kernel
theorem dX3_sortsThatDo_12 : decode cX3_sortsThatDo 12 = .ok (.invokestatic 49, 3) := by decide +kernel
theorem dX3_sortsThatDo_15 : decode cX3_sortsThatDo 15 = .ok (.iload_n 1, 1) := by decide +kernel
theorem dX3_sortsThatDo_16 : decode cX3_sortsThatDo 16 = .ok (.if_icmp .eq 13, 3) := by decide +kernel
theorem dX3_sortsThatDo_19 : decode cX3_sortsThatDo 19 = .ok (.iload_n 3, 1) := by decide +kernel
theorem dX3_sortsThatDo_20 : decode cX3_sortsThatDo 20 = .ok (.iload_n 0, 1) := by decide +kernel
theorem dX3_sortsThatDo_21 : decode cX3_sortsThatDo 21 = .ok (.iconst 1, 1) := by decide +kernel
theorem dX3_sortsThatDo_22 : decode cX3_sortsThatDo 22 = .ok (.invokestatic 49, 3) := by decide +kernel
theorem dX3_sortsThatDo_25 : decode cX3_sortsThatDo 25 = .ok (.iload_n 1, 1) := by decide +kernel
theorem dX3_sortsThatDo_26 : decode cX3_sortsThatDo 26 = .ok (.if_icmp .ne 9, 3) := by decide +kernel
theorem dX3_sortsThatDo_29 : decode cX3_sortsThatDo 29 = .ok (.iload_n 2, 1) := by decide +kernel
theorem dX3_sortsThatDo_30 : decode cX3_sortsThatDo 30 = .ok (.iconst 1, 1) := by decide +kernel
theorem dX3_sortsThatDo_31 : decode cX3_sortsThatDo 31 = .ok (.iload_n 3, 1) := by decide +kernel
theorem dX3_sortsThatDo_32 : decode cX3_sortsThatDo 32 = .ok (.ishl, 1) := by decide +kernel
theorem dX3_sortsThatDo_33 : decode cX3_sortsThatDo 33 = .ok (.ior, 1) := by decide +kernel
theorem dX3_sortsThatDo_34 : decode cX3_sortsThatDo 34 = .ok (.istore_n 2, 1) := by decide +kernel
theorem dX3_sortsThatDo_35 : decode cX3_sortsThatDo 35 = .ok (.iinc 3 1, 3) := by decide +kernel
theorem dX3_sortsThatDo_38 : decode cX3_sortsThatDo 38 = .ok (.goto (-34), 3) := by decide +kernel
theorem dX3_sortsThatDo_41 : decode cX3_sortsThatDo 41 = .ok (.iload_n 2, 1) := by decide +kernel
theorem dX3_sortsThatDo_42 : decode cX3_sortsThatDo 42 = .ok (.ireturn, 1) := by decide +kernel
theorem dX4_init_0 : decode cX4_init 0 = .ok (.aload_n 0, 1) := by decide +kernel
theorem dX4_init_1 : decode cX4_init 1 = .ok (.invokespecial 3, 3) := by decide +kernel
theorem dX4_init_4 : decode cX4_init 4 = .ok (.aload_n 0, 1) := by decide +kernel
theorem dX4_init_5 : decode cX4_init 5 = .ok (.bipush 72, 2) := by decide +kernel
theorem dX4_init_7 : decode cX4_init 7 = .ok (.newarray .int, 2) := by decide +kernel
theorem dX4_init_9 : decode cX4_init 9 = .ok (.putfield 9, 3) := by decide +kernel
theorem dX4_init_12 : decode cX4_init 12 = .ok (.aload_n 0, 1) := by decide +kernel
theorem dX4_init_13 : decode cX4_init 13 = .ok (.bipush 16, 2) := by decide +kernel
theorem dX4_init_15 : decode cX4_init 15 = .ok (.newarray .int, 2) := by decide +kernel
theorem dX4_init_17 : decode cX4_init 17 = .ok (.putfield 15, 3) := by decide +kernel
theorem dX4_init_20 : decode cX4_init 20 = .ok (.aload_n 0, 1) := by decide +kernel
theorem dX4_init_21 : decode cX4_init 21 = .ok (.aload_n 1, 1) := by decide +kernel
theorem dX4_init_22 : decode cX4_init 22 = .ok (.putfield 18, 3) := by decide +kernel
theorem dX4_init_25 : decode cX4_init 25 = .ok (.aload_n 0, 1) := by decide +kernel
theorem dX4_init_26 : decode cX4_init 26 = .ok (.aload_n 2, 1) := by decide +kernel
theorem dX4_init_27 : decode cX4_init 27 = .ok (.putfield 22, 3) := by decide +kernel
theorem dX4_init_30 : decode cX4_init 30 = .ok (.return_, 1) := by decide +kernel
theorem dX4_write_0 : decode cX4_write 0 = .ok (.aload_n 0, 1) := by decide +kernel
theorem dX4_write_1 : decode cX4_write 1 = .ok (.iconst 0, 1) := by decide +kernel
theorem dX4_write_2 : decode cX4_write 2 = .ok (.putfield 26, 3) := by decide +kernel
theorem dX4_write_5 : decode cX4_write 5 = .ok (.aload_n 0, 1) := by decide +kernel
theorem dX4_write_6 : decode cX4_write 6 = .ok (.iconst 0, 1) := by decide +kernel
theorem dX4_write_7 : decode cX4_write 7 = .ok (.putfield 30, 3) := by decide +kernel
theorem dX4_write_10 : decode cX4_write 10 = .ok (.aload_n 0, 1) := by decide +kernel
theorem dX4_write_11 : decode cX4_write 11 = .ok (.iconst 0, 1) := by decide +kernel
theorem dX4_write_12 : decode cX4_write 12 = .ok (.putfield 33, 3) := by decide +kernel
theorem dX4_write_15 : decode cX4_write 15 = .ok (.aload_n 0, 1) := by decide +kernel
theorem dX4_write_16 : decode cX4_write 16 = .ok (.iconst 0, 1) := by decide +kernel
theorem dX4_write_17 : decode cX4_write 17 = .ok (.putfield 36, 3) := by decide +kernel
theorem dX4_write_20 : decode cX4_write 20 = .ok (.aload_n 0, 1) := by decide +kernel
theorem dX4_write_21 : decode cX4_write 21 = .ok (.iconst 0, 1) := by decide +kernel
theorem dX4_write_22 : decode cX4_write 22 = .ok (.putfield 39, 3) := by decide +kernel
theorem dX4_write_25 : decode cX4_write 25 = .ok (.aload_n 0, 1) := by decide +kernel
theorem dX4_write_26 : decode cX4_write 26 = .ok (.getfield 22, 3) := by decide +kernel
theorem dX4_write_29 : decode cX4_write 29 = .ok (.invokevirtual 42, 3) := by decide +kernel
theorem dX4_write_32 : decode cX4_write 32 = .ok (.ifCond .eq 9, 3) := by decide +kernel
theorem dX4_write_35 : decode cX4_write 35 = .ok (.aload_n 0, 1) := by decide +kernel
theorem dX4_write_36 : decode cX4_write 36 = .ok (.iconst 0, 1) := by decide +kernel
theorem dX4_write_37 : decode cX4_write 37 = .ok (.iconst 0, 1) := by decide +kernel
theorem dX4_write_38 : decode cX4_write 38 = .ok (.invokevirtual 48, 3) := by decide +kernel
theorem dX4_write_41 : decode cX4_write 41 = .ok (.return_, 1) := by decide +kernel
theorem dX4_putTree_0 : decode cX4_putTree 0 = .ok (.aload_n 0, 1) := by decide +kernel
theorem dX4_putTree_1 : decode cX4_putTree 1 = .ok (.getfield 18, 3) := by decide +kernel
theorem dX4_putTree_4 : decode cX4_putTree 4 = .ok (.iload_n 1, 1) := by decide +kernel
theorem dX4_putTree_5 : decode cX4_putTree 5 = .ok (.invokevirtual 52, 3) := by decide +kernel
theorem dX4_putTree_8 : decode cX4_putTree 8 = .ok (.ifCond .eq 9, 3) := by decide +kernel
theorem dX4_putTree_11 : decode cX4_putTree 11 = .ok (.iload_n 2, 1) := by decide +kernel
theorem dX4_putTree_12 : decode cX4_putTree 12 = .ok (.bipush 8, 2) := by decide +kernel
theorem dX4_putTree_14 : decode cX4_putTree 14 = .ok (.if_icmp .lt 4, 3) := by decide +kernel
theorem dX4_putTree_17 : decode cX4_putTree 17 = .ok (.return_, 1) := by decide +kernel
theorem dX4_putTree_18 : decode cX4_putTree 18 = .ok (.aload_n 0, 1) := by decide +kernel
theorem dX4_putTree_19 : decode cX4_putTree 19 = .ok (.getfield 22, 3) := by decide +kernel
theorem dX4_putTree_22 : decode cX4_putTree 22 = .ok (.iload_n 1, 1) := by decide +kernel
theorem dX4_putTree_23 : decode cX4_putTree 23 = .ok (.invokevirtual 58, 3) := by decide +kernel
theorem dX4_putTree_26 : decode cX4_putTree 26 = .ok (.istore_n 3, 1) := by decide +kernel
theorem dX4_putTree_27 : decode cX4_putTree 27 = .ok (.iload_n 3, 1) := by decide +kernel
theorem dX4_putTree_28 : decode cX4_putTree 28 = .ok (.ifCond .eq 11, 3) := by decide +kernel
theorem dX4_putTree_31 : decode cX4_putTree 31 = .ok (.aload_n 0, 1) := by decide +kernel
theorem dX4_putTree_32 : decode cX4_putTree 32 = .ok (.bipush 100, 2) := by decide +kernel
theorem dX4_putTree_34 : decode cX4_putTree 34 = .ok (.iload_n 1, 1) := by decide +kernel
theorem dX4_putTree_35 : decode cX4_putTree 35 = .ok (.iadd, 1) := by decide +kernel
theorem dX4_putTree_36 : decode cX4_putTree 36 = .ok (.invokevirtual 61, 3) := by decide +kernel
theorem dX4_putTree_39 : decode cX4_putTree 39 = .ok (.aload_n 0, 1) := by decide +kernel
theorem dX4_putTree_40 : decode cX4_putTree 40 = .ok (.iload_n 1, 1) := by decide +kernel
theorem dX4_putTree_41 : decode cX4_putTree 41 = .ok (.iload_n 2, 1) := by decide +kernel
theorem dX4_putTree_42 : decode cX4_putTree 42 = .ok (.invokevirtual 65, 3) := by decide +kernel
theorem dX4_putTree_45 : decode cX4_putTree 45 = .ok (.iload_n 3, 1) := by decide +kernel
theorem dX4_putTree_46 : decode cX4_putTree 46 = .ok (.ifCond .eq 10, 3) := by decide +kernel
theorem dX4_putTree_49 : decode cX4_putTree 49 = .ok (.aload_n 0, 1) := by decide +kernel
theorem dX4_putTree_50 : decode cX4_putTree 50 = .ok (.sipush 300, 3) := by decide +kernel
theorem dX4_putTree_53 : decode cX4_putTree 53 = .ok (.invokevirtual 68, 3) := by decide +kernel
theorem dX4_putTree_56 : decode cX4_putTree 56 = .ok (.return_, 1) := by decide +kernel
theorem dX4_putWithin_0 : decode cX4_putWithin 0 = .ok (.aload_n 0, 1) := by decide +kernel
theorem dX4_putWithin_1 : decode cX4_putWithin 1 = .ok (.getfield 22, 3) := by decide +kernel
theorem dX4_putWithin_4 : decode cX4_putWithin 4 = .ok (.getfield 71, 3) := by decide +kernel
theorem dX4_putWithin_7 : decode cX4_putWithin 7 = .ok (.iconst 1, 1) := by decide +kernel
theorem dX4_putWithin_8 : decode cX4_putWithin 8 = .ok (.isub, 1) := by decide +kernel
theorem dX4_putWithin_9 : decode cX4_putWithin 9 = .ok (.istore_n 3, 1) := by decide +kernel
theorem dX4_putWithin_10 : decode cX4_putWithin 10 = .ok (.iload_n 3, 1) := by decide +kernel
theorem dX4_putWithin_11 : decode cX4_putWithin 11 = .ok (.ifCond .le 41, 3) := by decide +kernel
theorem dX4_putWithin_14 : decode cX4_putWithin 14 = .ok (.aload_n 0, 1) := by decide +kernel
theorem dX4_putWithin_15 : decode cX4_putWithin 15 = .ok (.iload_n 1, 1) := by decide +kernel
theorem dX4_putWithin_16 : decode cX4_putWithin 16 = .ok (.aload_n 0, 1) := by decide +kernel
theorem dX4_putWithin_17 : decode cX4_putWithin 17 = .ok (.getfield 22, 3) := by decide +kernel
theorem dX4_putWithin_20 : decode cX4_putWithin 20 = .ok (.iload_n 3, 1) := by decide +kernel
theorem dX4_putWithin_21 : decode cX4_putWithin 21 = .ok (.invokevirtual 72, 3) := by decide +kernel
theorem dX4_putWithin_24 : decode cX4_putWithin 24 = .ok (.invokevirtual 76, 3) := by decide +kernel
theorem dX4_putWithin_27 : decode cX4_putWithin 27 = .ok (.ifCond .eq 19, 3) := by decide +kernel
theorem dX4_putWithin_30 : decode cX4_putWithin 30 = .ok (.aload_n 0, 1) := by decide +kernel
theorem dX4_putWithin_31 : decode cX4_putWithin 31 = .ok (.sipush 200, 3) := by decide +kernel
theorem dX4_putWithin_34 : decode cX4_putWithin 34 = .ok (.aload_n 0, 1) := by decide +kernel
theorem dX4_putWithin_35 : decode cX4_putWithin 35 = .ok (.getfield 22, 3) := by decide +kernel
theorem dX4_putWithin_38 : decode cX4_putWithin 38 = .ok (.iload_n 3, 1) := by decide +kernel
theorem dX4_putWithin_39 : decode cX4_putWithin 39 = .ok (.invokevirtual 72, 3) := by decide +kernel
theorem dX4_putWithin_42 : decode cX4_putWithin 42 = .ok (.iadd, 1) := by decide +kernel
theorem dX4_putWithin_43 : decode cX4_putWithin 43 = .ok (.invokevirtual 61, 3) := by decide +kernel
theorem dX4_putWithin_46 : decode cX4_putWithin 46 = .ok (.iinc 3 (-1), 3) := by decide +kernel
theorem dX4_putWithin_49 : decode cX4_putWithin 49 = .ok (.goto (-39), 3) := by decide +kernel
theorem dX4_putWithin_52 : decode cX4_putWithin 52 = .ok (.aload_n 0, 1) := by decide +kernel
theorem dX4_putWithin_53 : decode cX4_putWithin 53 = .ok (.iload_n 1, 1) := by decide +kernel
theorem dX4_putWithin_54 : decode cX4_putWithin 54 = .ok (.invokevirtual 80, 3) := by decide +kernel
theorem dX4_putWithin_57 : decode cX4_putWithin 57 = .ok (.aload_n 0, 1) := by decide +kernel
theorem dX4_putWithin_58 : decode cX4_putWithin 58 = .ok (.getfield 18, 3) := by decide +kernel
theorem dX4_putWithin_61 : decode cX4_putWithin 61 = .ok (.getfield 83, 3) := by decide +kernel
theorem dX4_putWithin_64 : decode cX4_putWithin 64 = .ok (.iload_n 1, 1) := by decide +kernel
theorem dX4_putWithin_65 : decode cX4_putWithin 65 = .ok (.iaload, 1) := by decide +kernel
theorem dX4_putWithin_66 : decode cX4_putWithin 66 = .ok (.invokestatic 86, 3) := by decide +kernel
theorem dX4_putWithin_69 : decode cX4_putWithin 69 = .ok (.istore_n 3, 1) := by decide +kernel
theorem dX4_putWithin_70 : decode cX4_putWithin 70 = .ok (.iload_n 3, 1) := by decide +kernel
theorem dX4_putWithin_71 : decode cX4_putWithin 71 = .ok (.iconst 1, 1) := by decide +kernel
theorem dX4_putWithin_72 : decode cX4_putWithin 72 = .ok (.if_icmp .lt 10, 3) := by decide +kernel
theorem dX4_putWithin_75 : decode cX4_putWithin 75 = .ok (.aload_n 0, 1) := by decide +kernel
theorem dX4_putWithin_76 : decode cX4_putWithin 76 = .ok (.iload_n 1, 1) := by decide +kernel
theorem dX4_putWithin_77 : decode cX4_putWithin 77 = .ok (.iconst 0, 1) := by decide +kernel
theorem dX4_putWithin_78 : decode cX4_putWithin 78 = .ok (.iload_n 2, 1) := by decide +kernel
theorem dX4_putWithin_79 : decode cX4_putWithin 79 = .ok (.invokevirtual 89, 3) := by decide +kernel
theorem dX4_putWithin_82 : decode cX4_putWithin 82 = .ok (.iload_n 3, 1) := by decide +kernel
theorem dX4_putWithin_83 : decode cX4_putWithin 83 = .ok (.iconst 2, 1) := by decide +kernel
theorem dX4_putWithin_84 : decode cX4_putWithin 84 = .ok (.if_icmp .ne 24, 3) := by decide +kernel
theorem dX4_putWithin_87 : decode cX4_putWithin 87 = .ok (.aload_n 0, 1) := by decide +kernel
theorem dX4_putWithin_88 : decode cX4_putWithin 88 = .ok (.sipush 400, 3) := by decide +kernel
theorem dX4_putWithin_91 : decode cX4_putWithin 91 = .ok (.invokevirtual 80, 3) := by decide +kernel
theorem dX4_putWithin_94 : decode cX4_putWithin 94 = .ok (.aload_n 0, 1) := by decide +kernel
theorem dX4_putWithin_95 : decode cX4_putWithin 95 = .ok (.iload_n 1, 1) := by decide +kernel
theorem dX4_putWithin_96 : decode cX4_putWithin 96 = .ok (.iconst 1, 1) := by decide +kernel
theorem dX4_putWithin_97 : decode cX4_putWithin 97 = .ok (.iload_n 2, 1) := by decide +kernel
theorem dX4_putWithin_98 : decode cX4_putWithin 98 = .ok (.invokevirtual 89, 3) := by decide +kernel
theorem dX4_putWithin_101 : decode cX4_putWithin 101 = .ok (.aload_n 0, 1) := by decide +kernel
theorem dX4_putWithin_102 : decode cX4_putWithin 102 = .ok (.sipush 401, 3) := by decide +kernel
theorem dX4_putWithin_105 : decode cX4_putWithin 105 = .ok (.invokevirtual 80, 3) := by decide +kernel
theorem dX4_putWithin_108 : decode cX4_putWithin 108 = .ok (.iconst 1, 1) := by decide +kernel
theorem dX4_putWithin_109 : decode cX4_putWithin 109 = .ok (.istore 4, 2) := by decide +kernel
theorem dX4_putWithin_111 : decode cX4_putWithin 111 = .ok (.iload 4, 2) := by decide +kernel
theorem dX4_putWithin_113 : decode cX4_putWithin 113 = .ok (.aload_n 0, 1) := by decide +kernel
theorem dX4_putWithin_114 : decode cX4_putWithin 114 = .ok (.getfield 22, 3) := by decide +kernel
theorem dX4_putWithin_117 : decode cX4_putWithin 117 = .ok (.getfield 71, 3) := by decide +kernel
theorem dX4_putWithin_120 : decode cX4_putWithin 120 = .ok (.if_icmp .ge 49, 3) := by decide +kernel
theorem dX4_putWithin_123 : decode cX4_putWithin 123 = .ok (.aload_n 0, 1) := by decide +kernel
theorem dX4_putWithin_124 : decode cX4_putWithin 124 = .ok (.iload_n 1, 1) := by decide +kernel
theorem dX4_putWithin_125 : decode cX4_putWithin 125 = .ok (.aload_n 0, 1) := by decide +kernel
theorem dX4_putWithin_126 : decode cX4_putWithin 126 = .ok (.getfield 22, 3) := by decide +kernel
theorem dX4_putWithin_129 : decode cX4_putWithin 129 = .ok (.iload 4, 2) := by decide +kernel
theorem dX4_putWithin_131 : decode cX4_putWithin 131 = .ok (.invokevirtual 72, 3) := by decide +kernel
theorem dX4_putWithin_134 : decode cX4_putWithin 134 = .ok (.invokevirtual 76, 3) := by decide +kernel
theorem dX4_putWithin_137 : decode cX4_putWithin 137 = .ok (.ifCond .eq 26, 3) := by decide +kernel
theorem dX4_putWithin_140 : decode cX4_putWithin 140 = .ok (.aload_n 0, 1) := by decide +kernel
theorem dX4_putWithin_141 : decode cX4_putWithin 141 = .ok (.sipush 301, 3) := by decide +kernel
theorem dX4_putWithin_144 : decode cX4_putWithin 144 = .ok (.invokevirtual 68, 3) := by decide +kernel
theorem dX4_putWithin_147 : decode cX4_putWithin 147 = .ok (.aload_n 0, 1) := by decide +kernel
theorem dX4_putWithin_148 : decode cX4_putWithin 148 = .ok (.aload_n 0, 1) := by decide +kernel
theorem dX4_putWithin_149 : decode cX4_putWithin 149 = .ok (.getfield 22, 3) := by decide +kernel
theorem dX4_putWithin_152 : decode cX4_putWithin 152 = .ok (.iload 4, 2) := by decide +kernel
theorem dX4_putWithin_154 : decode cX4_putWithin 154 = .ok (.invokevirtual 72, 3) := by decide +kernel
theorem dX4_putWithin_157 : decode cX4_putWithin 157 = .ok (.iload_n 2, 1) := by decide +kernel
theorem dX4_putWithin_158 : decode cX4_putWithin 158 = .ok (.iconst 1, 1) := by decide +kernel
theorem dX4_putWithin_159 : decode cX4_putWithin 159 = .ok (.iadd, 1) := by decide +kernel
theorem dX4_putWithin_160 : decode cX4_putWithin 160 = .ok (.invokevirtual 48, 3) := by decide +kernel
theorem dX4_putWithin_163 : decode cX4_putWithin 163 = .ok (.iinc 4 1, 3) := by decide +kernel
theorem dX4_putWithin_166 : decode cX4_putWithin 166 = .ok (.goto (-55), 3) := by decide +kernel
theorem dX4_putWithin_169 : decode cX4_putWithin 169 = .ok (.return_, 1) := by decide +kernel
theorem dX4_isBlockIn_0 : decode cX4_isBlockIn 0 = .ok (.aload_n 0, 1) := by decide +kernel
theorem dX4_isBlockIn_1 : decode cX4_isBlockIn 1 = .ok (.getfield 22, 3) := by decide +kernel
theorem dX4_isBlockIn_4 : decode cX4_isBlockIn 4 = .ok (.iload_n 2, 1) := by decide +kernel
theorem dX4_isBlockIn_5 : decode cX4_isBlockIn 5 = .ok (.invokevirtual 93, 3) := by decide +kernel
theorem dX4_isBlockIn_8 : decode cX4_isBlockIn 8 = .ok (.ifCond .eq 19, 3) := by decide +kernel
theorem dX4_isBlockIn_11 : decode cX4_isBlockIn 11 = .ok (.aload_n 0, 1) := by decide +kernel
theorem dX4_isBlockIn_12 : decode cX4_isBlockIn 12 = .ok (.getfield 22, 3) := by decide +kernel
theorem dX4_isBlockIn_15 : decode cX4_isBlockIn 15 = .ok (.iload_n 2, 1) := by decide +kernel
theorem dX4_isBlockIn_16 : decode cX4_isBlockIn 16 = .ok (.invokevirtual 96, 3) := by decide +kernel
theorem dX4_isBlockIn_19 : decode cX4_isBlockIn 19 = .ok (.iload_n 1, 1) := by decide +kernel
theorem dX4_isBlockIn_20 : decode cX4_isBlockIn 20 = .ok (.if_icmp .ne 7, 3) := by decide +kernel
theorem dX4_isBlockIn_23 : decode cX4_isBlockIn 23 = .ok (.iconst 1, 1) := by decide +kernel
theorem dX4_isBlockIn_24 : decode cX4_isBlockIn 24 = .ok (.goto 4, 3) := by decide +kernel
theorem dX4_isBlockIn_27 : decode cX4_isBlockIn 27 = .ok (.iconst 0, 1) := by decide +kernel
theorem dX4_isBlockIn_28 : decode cX4_isBlockIn 28 = .ok (.ireturn, 1) := by decide +kernel
theorem dX4_putBranch_0 : decode cX4_putBranch 0 = .ok (.aload_n 0, 1) := by decide +kernel
theorem dX4_putBranch_1 : decode cX4_putBranch 1 = .ok (.getfield 18, 3) := by decide +kernel
theorem dX4_putBranch_4 : decode cX4_putBranch 4 = .ok (.iload_n 1, 1) := by decide +kernel
theorem dX4_putBranch_5 : decode cX4_putBranch 5 = .ok (.iload_n 2, 1) := by decide +kernel
theorem dX4_putBranch_6 : decode cX4_putBranch 6 = .ok (.invokevirtual 99, 3) := by decide +kernel
theorem dX4_putBranch_9 : decode cX4_putBranch 9 = .ok (.istore 4, 2) := by decide +kernel
theorem dX4_putBranch_11 : decode cX4_putBranch 11 = .ok (.aload_n 0, 1) := by decide +kernel
theorem dX4_putBranch_12 : decode cX4_putBranch 12 = .ok (.getfield 22, 3) := by decide +kernel
theorem dX4_putBranch_15 : decode cX4_putBranch 15 = .ok (.iload_n 1, 1) := by decide +kernel
theorem dX4_putBranch_16 : decode cX4_putBranch 16 = .ok (.iload_n 2, 1) := by decide +kernel
theorem dX4_putBranch_17 : decode cX4_putBranch 17 = .ok (.invokevirtual 103, 3) := by decide +kernel
theorem dX4_putBranch_20 : decode cX4_putBranch 20 = .ok (.ifCond .eq 22, 3) := by decide +kernel
theorem dX4_putBranch_23 : decode cX4_putBranch 23 = .ok (.aload_n 0, 1) := by decide +kernel
theorem dX4_putBranch_24 : decode cX4_putBranch 24 = .ok (.sipush 500, 3) := by decide +kernel
theorem dX4_putBranch_27 : decode cX4_putBranch 27 = .ok (.aload_n 0, 1) := by decide +kernel
theorem dX4_putBranch_28 : decode cX4_putBranch 28 = .ok (.bipush 100, 2) := by decide +kernel
theorem dX4_putBranch_30 : decode cX4_putBranch 30 = .ok (.iload 4, 2) := by decide +kernel
theorem dX4_putBranch_32 : decode cX4_putBranch 32 = .ok (.iadd, 1) := by decide +kernel
theorem dX4_putBranch_33 : decode cX4_putBranch 33 = .ok (.invokevirtual 106, 3) := by decide +kernel
theorem dX4_putBranch_36 : decode cX4_putBranch 36 = .ok (.invokevirtual 109, 3) := by decide +kernel
theorem dX4_putBranch_39 : decode cX4_putBranch 39 = .ok (.goto 44, 3) := by decide +kernel
theorem dX4_putBranch_42 : decode cX4_putBranch 42 = .ok (.aload_n 0, 1) := by decide +kernel
theorem dX4_putBranch_43 : decode cX4_putBranch 43 = .ok (.getfield 22, 3) := by decide +kernel
theorem dX4_putBranch_46 : decode cX4_putBranch 46 = .ok (.iload 4, 2) := by decide +kernel
theorem dX4_putBranch_48 : decode cX4_putBranch 48 = .ok (.invokevirtual 93, 3) := by decide +kernel
theorem dX4_putBranch_51 : decode cX4_putBranch 51 = .ok (.ifCond .eq 23, 3) := by decide +kernel
theorem dX4_putBranch_54 : decode cX4_putBranch 54 = .ok (.aload_n 0, 1) := by decide +kernel
theorem dX4_putBranch_55 : decode cX4_putBranch 55 = .ok (.sipush 600, 3) := by decide +kernel
theorem dX4_putBranch_58 : decode cX4_putBranch 58 = .ok (.aload_n 0, 1) := by decide +kernel
theorem dX4_putBranch_59 : decode cX4_putBranch 59 = .ok (.sipush 200, 3) := by decide +kernel
theorem dX4_putBranch_62 : decode cX4_putBranch 62 = .ok (.iload 4, 2) := by decide +kernel
theorem dX4_putBranch_64 : decode cX4_putBranch 64 = .ok (.iadd, 1) := by decide +kernel
theorem dX4_putBranch_65 : decode cX4_putBranch 65 = .ok (.invokevirtual 106, 3) := by decide +kernel
theorem dX4_putBranch_68 : decode cX4_putBranch 68 = .ok (.invokevirtual 109, 3) := by decide +kernel
theorem dX4_putBranch_71 : decode cX4_putBranch 71 = .ok (.goto 12, 3) := by decide +kernel
theorem dX4_putBranch_74 : decode cX4_putBranch 74 = .ok (.aload_n 0, 1) := by decide +kernel
theorem dX4_putBranch_75 : decode cX4_putBranch 75 = .ok (.iload 4, 2) := by decide +kernel
theorem dX4_putBranch_77 : decode cX4_putBranch 77 = .ok (.iload_n 3, 1) := by decide +kernel
theorem dX4_putBranch_78 : decode cX4_putBranch 78 = .ok (.iconst 1, 1) := by decide +kernel
theorem dX4_putBranch_79 : decode cX4_putBranch 79 = .ok (.iadd, 1) := by decide +kernel
theorem dX4_putBranch_80 : decode cX4_putBranch 80 = .ok (.invokevirtual 48, 3) := by decide +kernel
theorem dX4_putBranch_83 : decode cX4_putBranch 83 = .ok (.return_, 1) := by decide +kernel
theorem dX4_depthOf_0 : decode cX4_depthOf 0 = .ok (.iconst 0, 1) := by decide +kernel
theorem dX4_depthOf_1 : decode cX4_depthOf 1 = .ok (.istore_n 2, 1) := by decide +kernel
theorem dX4_depthOf_2 : decode cX4_depthOf 2 = .ok (.iload_n 2, 1) := by decide +kernel
theorem dX4_depthOf_3 : decode cX4_depthOf 3 = .ok (.aload_n 0, 1) := by decide +kernel
theorem dX4_depthOf_4 : decode cX4_depthOf 4 = .ok (.getfield 39, 3) := by decide +kernel
theorem dX4_depthOf_7 : decode cX4_depthOf 7 = .ok (.if_icmp .ge 26, 3) := by decide +kernel
theorem dX4_depthOf_10 : decode cX4_depthOf 10 = .ok (.aload_n 0, 1) := by decide +kernel
theorem dX4_depthOf_11 : decode cX4_depthOf 11 = .ok (.getfield 15, 3) := by decide +kernel
theorem dX4_depthOf_14 : decode cX4_depthOf 14 = .ok (.aload_n 0, 1) := by decide +kernel
theorem dX4_depthOf_15 : decode cX4_depthOf 15 = .ok (.getfield 39, 3) := by decide +kernel
theorem dX4_depthOf_18 : decode cX4_depthOf 18 = .ok (.iconst 1, 1) := by decide +kernel
theorem dX4_depthOf_19 : decode cX4_depthOf 19 = .ok (.isub, 1) := by decide +kernel
theorem dX4_depthOf_20 : decode cX4_depthOf 20 = .ok (.iload_n 2, 1) := by decide +kernel
theorem dX4_depthOf_21 : decode cX4_depthOf 21 = .ok (.isub, 1) := by decide +kernel
theorem dX4_depthOf_22 : decode cX4_depthOf 22 = .ok (.iaload, 1) := by decide +kernel
theorem dX4_depthOf_23 : decode cX4_depthOf 23 = .ok (.iload_n 1, 1) := by decide +kernel
theorem dX4_depthOf_24 : decode cX4_depthOf 24 = .ok (.if_icmp .eq 9, 3) := by decide +kernel
theorem dX4_depthOf_27 : decode cX4_depthOf 27 = .ok (.iinc 2 1, 3) := by decide +kernel
theorem dX4_depthOf_30 : decode cX4_depthOf 30 = .ok (.goto (-28), 3) := by decide +kernel
theorem dX4_depthOf_33 : decode cX4_depthOf 33 = .ok (.iload_n 2, 1) := by decide +kernel
theorem dX4_depthOf_34 : decode cX4_depthOf 34 = .ok (.ireturn, 1) := by decide +kernel
theorem dX4_putWayOut_0 : decode cX4_putWayOut 0 = .ok (.aload_n 0, 1) := by decide +kernel
theorem dX4_putWayOut_1 : decode cX4_putWayOut 1 = .ok (.iload_n 1, 1) := by decide +kernel
theorem dX4_putWayOut_2 : decode cX4_putWayOut 2 = .ok (.iload_n 2, 1) := by decide +kernel
theorem dX4_putWayOut_3 : decode cX4_putWayOut 3 = .ok (.iadd, 1) := by decide +kernel
theorem dX4_putWayOut_4 : decode cX4_putWayOut 4 = .ok (.invokevirtual 80, 3) := by decide +kernel
theorem dX4_putWayOut_7 : decode cX4_putWayOut 7 = .ok (.aload_n 0, 1) := by decide +kernel
theorem dX4_putWayOut_8 : decode cX4_putWayOut 8 = .ok (.dup, 1) := by decide +kernel
theorem dX4_putWayOut_9 : decode cX4_putWayOut 9 = .ok (.getfield 30, 3) := by decide +kernel
theorem dX4_putWayOut_12 : decode cX4_putWayOut 12 = .ok (.iconst 1, 1) := by decide +kernel
theorem dX4_putWayOut_13 : decode cX4_putWayOut 13 = .ok (.iadd, 1) := by decide +kernel
theorem dX4_putWayOut_14 : decode cX4_putWayOut 14 = .ok (.putfield 30, 3) := by decide +kernel
theorem dX4_putWayOut_17 : decode cX4_putWayOut 17 = .ok (.aload_n 0, 1) := by decide +kernel
theorem dX4_putWayOut_18 : decode cX4_putWayOut 18 = .ok (.dup, 1) := by decide +kernel
theorem dX4_putWayOut_19 : decode cX4_putWayOut 19 = .ok (.getfield 33, 3) := by decide +kernel
theorem dX4_putWayOut_22 : decode cX4_putWayOut 22 = .ok (.iload_n 2, 1) := by decide +kernel
theorem dX4_putWayOut_23 : decode cX4_putWayOut 23 = .ok (.iadd, 1) := by decide +kernel
theorem dX4_putWayOut_24 : decode cX4_putWayOut 24 = .ok (.putfield 33, 3) := by decide +kernel
theorem dX4_putWayOut_27 : decode cX4_putWayOut 27 = .ok (.return_, 1) := by decide +kernel
theorem dX4_putOpening_0 : decode cX4_putOpening 0 = .ok (.aload_n 0, 1) := by decide +kernel
theorem dX4_putOpening_1 : decode cX4_putOpening 1 = .ok (.iload_n 1, 1) := by decide +kernel
theorem dX4_putOpening_2 : decode cX4_putOpening 2 = .ok (.invokevirtual 80, 3) := by decide +kernel
theorem dX4_putOpening_5 : decode cX4_putOpening 5 = .ok (.aload_n 0, 1) := by decide +kernel
theorem dX4_putOpening_6 : decode cX4_putOpening 6 = .ok (.getfield 39, 3) := by decide +kernel
theorem dX4_putOpening_9 : decode cX4_putOpening 9 = .ok (.aload_n 0, 1) := by decide +kernel
theorem dX4_putOpening_10 : decode cX4_putOpening 10 = .ok (.getfield 15, 3) := by decide +kernel
theorem dX4_putOpening_13 : decode cX4_putOpening 13 = .ok (.arraylength, 1) := by decide +kernel
theorem dX4_putOpening_14 : decode cX4_putOpening 14 = .ok (.if_icmp .ge 23, 3) := by decide +kernel
theorem dX4_putOpening_17 : decode cX4_putOpening 17 = .ok (.aload_n 0, 1) := by decide +kernel
theorem dX4_putOpening_18 : decode cX4_putOpening 18 = .ok (.getfield 15, 3) := by decide +kernel
theorem dX4_putOpening_21 : decode cX4_putOpening 21 = .ok (.aload_n 0, 1) := by decide +kernel
theorem dX4_putOpening_22 : decode cX4_putOpening 22 = .ok (.getfield 39, 3) := by decide +kernel
theorem dX4_putOpening_25 : decode cX4_putOpening 25 = .ok (.iload_n 1, 1) := by decide +kernel
theorem dX4_putOpening_26 : decode cX4_putOpening 26 = .ok (.iastore, 1) := by decide +kernel
theorem dX4_putOpening_27 : decode cX4_putOpening 27 = .ok (.aload_n 0, 1) := by decide +kernel
theorem dX4_putOpening_28 : decode cX4_putOpening 28 = .ok (.dup, 1) := by decide +kernel
theorem dX4_putOpening_29 : decode cX4_putOpening 29 = .ok (.getfield 39, 3) := by decide +kernel
theorem dX4_putOpening_32 : decode cX4_putOpening 32 = .ok (.iconst 1, 1) := by decide +kernel
theorem dX4_putOpening_33 : decode cX4_putOpening 33 = .ok (.iadd, 1) := by decide +kernel
theorem dX4_putOpening_34 : decode cX4_putOpening 34 = .ok (.putfield 39, 3) := by decide +kernel
theorem dX4_putOpening_37 : decode cX4_putOpening 37 = .ok (.aload_n 0, 1) := by decide +kernel
theorem dX4_putOpening_38 : decode cX4_putOpening 38 = .ok (.aload_n 0, 1) := by decide +kernel
theorem dX4_putOpening_39 : decode cX4_putOpening 39 = .ok (.getfield 36, 3) := by decide +kernel
theorem dX4_putOpening_42 : decode cX4_putOpening 42 = .ok (.aload_n 0, 1) := by decide +kernel
theorem dX4_putOpening_43 : decode cX4_putOpening 43 = .ok (.getfield 39, 3) := by decide +kernel
theorem dX4_putOpening_46 : decode cX4_putOpening 46 = .ok (.invokestatic 112, 3) := by decide +kernel
theorem dX4_putOpening_49 : decode cX4_putOpening 49 = .ok (.putfield 36, 3) := by decide +kernel
theorem dX4_putOpening_52 : decode cX4_putOpening 52 = .ok (.return_, 1) := by decide +kernel
theorem dX4_putClosing_0 : decode cX4_putClosing 0 = .ok (.aload_n 0, 1) := by decide +kernel
theorem dX4_putClosing_1 : decode cX4_putClosing 1 = .ok (.iload_n 1, 1) := by decide +kernel
theorem dX4_putClosing_2 : decode cX4_putClosing 2 = .ok (.invokevirtual 80, 3) := by decide +kernel
theorem dX4_putClosing_5 : decode cX4_putClosing 5 = .ok (.aload_n 0, 1) := by decide +kernel
theorem dX4_putClosing_6 : decode cX4_putClosing 6 = .ok (.iconst 0, 1) := by decide +kernel
theorem dX4_putClosing_7 : decode cX4_putClosing 7 = .ok (.aload_n 0, 1) := by decide +kernel
theorem dX4_putClosing_8 : decode cX4_putClosing 8 = .ok (.getfield 39, 3) := by decide +kernel
theorem dX4_putClosing_11 : decode cX4_putClosing 11 = .ok (.iconst 1, 1) := by decide +kernel
theorem dX4_putClosing_12 : decode cX4_putClosing 12 = .ok (.isub, 1) := by decide +kernel
theorem dX4_putClosing_13 : decode cX4_putClosing 13 = .ok (.invokestatic 112, 3) := by decide +kernel
theorem dX4_putClosing_16 : decode cX4_putClosing 16 = .ok (.putfield 39, 3) := by decide +kernel
theorem dX4_putClosing_19 : decode cX4_putClosing 19 = .ok (.return_, 1) := by decide +kernel
theorem dX4_put_0 : decode cX4_put 0 = .ok (.aload_n 0, 1) := by decide +kernel
theorem dX4_put_1 : decode cX4_put 1 = .ok (.getfield 26, 3) := by decide +kernel
theorem dX4_put_4 : decode cX4_put 4 = .ok (.aload_n 0, 1) := by decide +kernel
theorem dX4_put_5 : decode cX4_put 5 = .ok (.getfield 9, 3) := by decide +kernel
theorem dX4_put_8 : decode cX4_put 8 = .ok (.arraylength, 1) := by decide +kernel
theorem dX4_put_9 : decode cX4_put 9 = .ok (.if_icmp .ge 23, 3) := by decide +kernel
theorem dX4_put_12 : decode cX4_put 12 = .ok (.aload_n 0, 1) := by decide +kernel
theorem dX4_put_13 : decode cX4_put 13 = .ok (.getfield 9, 3) := by decide +kernel
theorem dX4_put_16 : decode cX4_put 16 = .ok (.aload_n 0, 1) := by decide +kernel
theorem dX4_put_17 : decode cX4_put 17 = .ok (.getfield 26, 3) := by decide +kernel
theorem dX4_put_20 : decode cX4_put 20 = .ok (.iload_n 1, 1) := by decide +kernel
theorem dX4_put_21 : decode cX4_put 21 = .ok (.iastore, 1) := by decide +kernel
theorem dX4_put_22 : decode cX4_put 22 = .ok (.aload_n 0, 1) := by decide +kernel
theorem dX4_put_23 : decode cX4_put 23 = .ok (.dup, 1) := by decide +kernel
theorem dX4_put_24 : decode cX4_put 24 = .ok (.getfield 26, 3) := by decide +kernel
theorem dX4_put_27 : decode cX4_put 27 = .ok (.iconst 1, 1) := by decide +kernel
theorem dX4_put_28 : decode cX4_put 28 = .ok (.iadd, 1) := by decide +kernel
theorem dX4_put_29 : decode cX4_put 29 = .ok (.putfield 26, 3) := by decide +kernel
theorem dX4_put_32 : decode cX4_put 32 = .ok (.return_, 1) := by decide +kernel
theorem dX5_init_0 : decode cX5_init 0 = .ok (.aload_n 0, 1) := by decide +kernel
theorem dX5_init_1 : decode cX5_init 1 = .ok (.invokespecial 3, 3) := by decide +kernel
theorem dX5_init_4 : decode cX5_init 4 = .ok (.aload_n 0, 1) := by decide +kernel
theorem dX5_init_5 : decode cX5_init 5 = .ok (.bipush 30, 2) := by decide +kernel
theorem dX5_init_7 : decode cX5_init 7 = .ok (.newarray .int, 2) := by decide +kernel
theorem dX5_init_9 : decode cX5_init 9 = .ok (.putfield 9, 3) := by decide +kernel
theorem dX5_init_12 : decode cX5_init 12 = .ok (.aload_n 0, 1) := by decide +kernel
theorem dX5_init_13 : decode cX5_init 13 = .ok (.bipush 8, 2) := by decide +kernel
theorem dX5_init_15 : decode cX5_init 15 = .ok (.newarray .int, 2) := by decide +kernel
theorem dX5_init_17 : decode cX5_init 17 = .ok (.putfield 15, 3) := by decide +kernel
theorem dX5_init_20 : decode cX5_init 20 = .ok (.return_, 1) := by decide +kernel
theorem dX5_go_0 : decode cX5_go 0 = .ok (.aload_n 0, 1) := by decide +kernel
theorem dX5_go_1 : decode cX5_go 1 = .ok (.getfield 15, 3) := by decide +kernel
theorem dX5_go_4 : decode cX5_go 4 = .ok (.iconst 0, 1) := by decide +kernel
theorem dX5_go_5 : decode cX5_go 5 = .ok (.invokestatic 18, 3) := by decide +kernel
theorem dX5_go_8 : decode cX5_go 8 = .ok (.aload_n 0, 1) := by decide +kernel
theorem dX5_go_9 : decode cX5_go 9 = .ok (.iconst 0, 1) := by decide +kernel
theorem dX5_go_10 : decode cX5_go 10 = .ok (.putfield 24, 3) := by decide +kernel
theorem dX5_go_13 : decode cX5_go 13 = .ok (.iload_n 2, 1) := by decide +kernel
theorem dX5_go_14 : decode cX5_go 14 = .ok (.istore_n 3, 1) := by decide +kernel
theorem dX5_go_15 : decode cX5_go 15 = .ok (.iconst 0, 1) := by decide +kernel
theorem dX5_go_16 : decode cX5_go 16 = .ok (.istore 4, 2) := by decide +kernel
theorem dX5_go_18 : decode cX5_go 18 = .ok (.aload_n 0, 1) := by decide +kernel
theorem dX5_go_19 : decode cX5_go 19 = .ok (.getfield 24, 3) := by decide +kernel
theorem dX5_go_22 : decode cX5_go 22 = .ok (.aload_n 0, 1) := by decide +kernel
theorem dX5_go_23 : decode cX5_go 23 = .ok (.getfield 9, 3) := by decide +kernel
theorem dX5_go_26 : decode cX5_go 26 = .ok (.arraylength, 1) := by decide +kernel
theorem dX5_go_27 : decode cX5_go 27 = .ok (.if_icmp .ge 104, 3) := by decide +kernel
theorem dX5_go_30 : decode cX5_go 30 = .ok (.aload_n 1, 1) := by decide +kernel
theorem dX5_go_31 : decode cX5_go 31 = .ok (.iload 4, 2) := by decide +kernel
theorem dX5_go_33 : decode cX5_go 33 = .ok (.invokevirtual 28, 3) := by decide +kernel
theorem dX5_go_36 : decode cX5_go 36 = .ok (.ifCond .eq 95, 3) := by decide +kernel
theorem dX5_go_39 : decode cX5_go 39 = .ok (.aload_n 0, 1) := by decide +kernel
theorem dX5_go_40 : decode cX5_go 40 = .ok (.getfield 9, 3) := by decide +kernel
theorem dX5_go_43 : decode cX5_go 43 = .ok (.aload_n 0, 1) := by decide +kernel
theorem dX5_go_44 : decode cX5_go 44 = .ok (.getfield 24, 3) := by decide +kernel
theorem dX5_go_47 : decode cX5_go 47 = .ok (.iload 4, 2) := by decide +kernel
theorem dX5_go_49 : decode cX5_go 49 = .ok (.iastore, 1) := by decide +kernel
theorem dX5_go_50 : decode cX5_go 50 = .ok (.aload_n 0, 1) := by decide +kernel
theorem dX5_go_51 : decode cX5_go 51 = .ok (.dup, 1) := by decide +kernel
theorem dX5_go_52 : decode cX5_go 52 = .ok (.getfield 24, 3) := by decide +kernel
theorem dX5_go_55 : decode cX5_go 55 = .ok (.iconst 1, 1) := by decide +kernel
theorem dX5_go_56 : decode cX5_go 56 = .ok (.iadd, 1) := by decide +kernel
theorem dX5_go_57 : decode cX5_go 57 = .ok (.putfield 24, 3) := by decide +kernel
theorem dX5_go_60 : decode cX5_go 60 = .ok (.aload_n 0, 1) := by decide +kernel
theorem dX5_go_61 : decode cX5_go 61 = .ok (.getfield 15, 3) := by decide +kernel
theorem dX5_go_64 : decode cX5_go 64 = .ok (.iload 4, 2) := by decide +kernel
theorem dX5_go_66 : decode cX5_go 66 = .ok (.dup2, 1) := by decide +kernel
theorem dX5_go_67 : decode cX5_go 67 = .ok (.iaload, 1) := by decide +kernel
theorem dX5_go_68 : decode cX5_go 68 = .ok (.iconst 1, 1) := by decide +kernel
theorem dX5_go_69 : decode cX5_go 69 = .ok (.iadd, 1) := by decide +kernel
theorem dX5_go_70 : decode cX5_go 70 = .ok (.iastore, 1) := by decide +kernel
theorem dX5_go_71 : decode cX5_go 71 = .ok (.aload_n 1, 1) := by decide +kernel
theorem dX5_go_72 : decode cX5_go 72 = .ok (.getfield 34, 3) := by decide +kernel
theorem dX5_go_75 : decode cX5_go 75 = .ok (.iload 4, 2) := by decide +kernel
theorem dX5_go_77 : decode cX5_go 77 = .ok (.iaload, 1) := by decide +kernel
theorem dX5_go_78 : decode cX5_go 78 = .ok (.aload_n 0, 1) := by decide +kernel
theorem dX5_go_79 : decode cX5_go 79 = .ok (.getfield 15, 3) := by decide +kernel
theorem dX5_go_82 : decode cX5_go 82 = .ok (.iload 4, 2) := by decide +kernel
theorem dX5_go_84 : decode cX5_go 84 = .ok (.iaload, 1) := by decide +kernel
theorem dX5_go_85 : decode cX5_go 85 = .ok (.iload_n 3, 1) := by decide +kernel
theorem dX5_go_86 : decode cX5_go 86 = .ok (.iconst 1, 1) := by decide +kernel
theorem dX5_go_87 : decode cX5_go 87 = .ok (.iand, 1) := by decide +kernel
theorem dX5_go_88 : decode cX5_go 88 = .ok (.invokestatic 37, 3) := by decide +kernel
theorem dX5_go_91 : decode cX5_go 91 = .ok (.istore 5, 2) := by decide +kernel
theorem dX5_go_93 : decode cX5_go 93 = .ok (.aload_n 1, 1) := by decide +kernel
theorem dX5_go_94 : decode cX5_go 94 = .ok (.getfield 34, 3) := by decide +kernel
theorem dX5_go_97 : decode cX5_go 97 = .ok (.iload 4, 2) := by decide +kernel
theorem dX5_go_99 : decode cX5_go 99 = .ok (.iaload, 1) := by decide +kernel
theorem dX5_go_100 : decode cX5_go 100 = .ok (.iconst 1, 1) := by decide +kernel
theorem dX5_go_101 : decode cX5_go 101 = .ok (.if_icmp .ne 7, 3) := by decide +kernel
theorem dX5_go_104 : decode cX5_go 104 = .ok (.iload_n 3, 1) := by decide +kernel
theorem dX5_go_105 : decode cX5_go 105 = .ok (.iconst 1, 1) := by decide +kernel
theorem dX5_go_106 : decode cX5_go 106 = .ok (.ishr, 1) := by decide +kernel
theorem dX5_go_107 : decode cX5_go 107 = .ok (.istore_n 3, 1) := by decide +kernel
theorem dX5_go_108 : decode cX5_go 108 = .ok (.iload 5, 2) := by decide +kernel
theorem dX5_go_110 : decode cX5_go 110 = .ok (.iconst 2, 1) := by decide +kernel
theorem dX5_go_111 : decode cX5_go 111 = .ok (.if_icmp .ne 7, 3) := by decide +kernel
theorem dX5_go_114 : decode cX5_go 114 = .ok (.iconst (-1), 1) := by decide +kernel
theorem dX5_go_115 : decode cX5_go 115 = .ok (.goto 11, 3) := by decide +kernel
theorem dX5_go_118 : decode cX5_go 118 = .ok (.aload_n 1, 1) := by decide +kernel
theorem dX5_go_119 : decode cX5_go 119 = .ok (.iload 4, 2) := by decide +kernel
theorem dX5_go_121 : decode cX5_go 121 = .ok (.iload 5, 2) := by decide +kernel
theorem dX5_go_123 : decode cX5_go 123 = .ok (.invokevirtual 41, 3) := by decide +kernel
theorem dX5_go_126 : decode cX5_go 126 = .ok (.istore 4, 2) := by decide +kernel
theorem dX5_go_128 : decode cX5_go 128 = .ok (.goto (-110), 3) := by decide +kernel
theorem dX5_go_131 : decode cX5_go 131 = .ok (.return_, 1) := by decide +kernel
theorem dX6_init_0 : decode cX6_init 0 = .ok (.aload_n 0, 1) := by decide +kernel
theorem dX6_init_1 : decode cX6_init 1 = .ok (.invokespecial 3, 3) := by decide +kernel
theorem dX6_init_4 : decode cX6_init 4 = .ok (.aload_n 0, 1) := by decide +kernel
theorem dX6_init_5 : decode cX6_init 5 = .ok (.new 9, 3) := by decide +kernel
theorem dX6_init_8 : decode cX6_init 8 = .ok (.dup, 1) := by decide +kernel
theorem dX6_init_9 : decode cX6_init 9 = .ok (.invokespecial 11, 3) := by decide +kernel
theorem dX6_init_12 : decode cX6_init 12 = .ok (.putfield 12, 3) := by decide +kernel
theorem dX6_init_15 : decode cX6_init 15 = .ok (.aload_n 0, 1) := by decide +kernel
theorem dX6_init_16 : decode cX6_init 16 = .ok (.new 16, 3) := by decide +kernel
theorem dX6_init_19 : decode cX6_init 19 = .ok (.dup, 1) := by decide +kernel
theorem dX6_init_20 : decode cX6_init 20 = .ok (.invokespecial 18, 3) := by decide +kernel
theorem dX6_init_23 : decode cX6_init 23 = .ok (.putfield 19, 3) := by decide +kernel
theorem dX6_init_26 : decode cX6_init 26 = .ok (.aload_n 0, 1) := by decide +kernel
theorem dX6_init_27 : decode cX6_init 27 = .ok (.new 23, 3) := by decide +kernel
theorem dX6_init_30 : decode cX6_init 30 = .ok (.dup, 1) := by decide +kernel
theorem dX6_init_31 : decode cX6_init 31 = .ok (.aload_n 0, 1) := by decide +kernel
theorem dX6_init_32 : decode cX6_init 32 = .ok (.getfield 19, 3) := by decide +kernel
theorem dX6_init_35 : decode cX6_init 35 = .ok (.invokespecial 25, 3) := by decide +kernel
theorem dX6_init_38 : decode cX6_init 38 = .ok (.putfield 28, 3) := by decide +kernel
theorem dX6_init_41 : decode cX6_init 41 = .ok (.aload_n 0, 1) := by decide +kernel
theorem dX6_init_42 : decode cX6_init 42 = .ok (.new 32, 3) := by decide +kernel
theorem dX6_init_45 : decode cX6_init 45 = .ok (.dup, 1) := by decide +kernel
theorem dX6_init_46 : decode cX6_init 46 = .ok (.aload_n 0, 1) := by decide +kernel
theorem dX6_init_47 : decode cX6_init 47 = .ok (.getfield 19, 3) := by decide +kernel
theorem dX6_init_50 : decode cX6_init 50 = .ok (.aload_n 0, 1) := by decide +kernel
theorem dX6_init_51 : decode cX6_init 51 = .ok (.getfield 28, 3) := by decide +kernel
theorem dX6_init_54 : decode cX6_init 54 = .ok (.invokespecial 34, 3) := by decide +kernel
theorem dX6_init_57 : decode cX6_init 57 = .ok (.putfield 37, 3) := by decide +kernel
theorem dX6_init_60 : decode cX6_init 60 = .ok (.aload_n 0, 1) := by decide +kernel
theorem dX6_init_61 : decode cX6_init 61 = .ok (.new 41, 3) := by decide +kernel
theorem dX6_init_64 : decode cX6_init 64 = .ok (.dup, 1) := by decide +kernel
theorem dX6_init_65 : decode cX6_init 65 = .ok (.invokespecial 43, 3) := by decide +kernel
theorem dX6_init_68 : decode cX6_init 68 = .ok (.putfield 44, 3) := by decide +kernel
theorem dX6_init_71 : decode cX6_init 71 = .ok (.aload_n 0, 1) := by decide +kernel
theorem dX6_init_72 : decode cX6_init 72 = .ok (.new 48, 3) := by decide +kernel
theorem dX6_init_75 : decode cX6_init 75 = .ok (.dup, 1) := by decide +kernel
theorem dX6_init_76 : decode cX6_init 76 = .ok (.invokespecial 50, 3) := by decide +kernel
theorem dX6_init_79 : decode cX6_init 79 = .ok (.putfield 51, 3) := by decide +kernel
theorem dX6_init_82 : decode cX6_init 82 = .ok (.aload_n 0, 1) := by decide +kernel
theorem dX6_init_83 : decode cX6_init 83 = .ok (.new 16, 3) := by decide +kernel
theorem dX6_init_86 : decode cX6_init 86 = .ok (.dup, 1) := by decide +kernel
theorem dX6_init_87 : decode cX6_init 87 = .ok (.invokespecial 18, 3) := by decide +kernel
theorem dX6_init_90 : decode cX6_init 90 = .ok (.putfield 55, 3) := by decide +kernel
theorem dX6_init_93 : decode cX6_init 93 = .ok (.aload_n 0, 1) := by decide +kernel
theorem dX6_init_94 : decode cX6_init 94 = .ok (.new 48, 3) := by decide +kernel
theorem dX6_init_97 : decode cX6_init 97 = .ok (.dup, 1) := by decide +kernel
theorem dX6_init_98 : decode cX6_init 98 = .ok (.invokespecial 50, 3) := by decide +kernel
theorem dX6_init_101 : decode cX6_init 101 = .ok (.putfield 58, 3) := by decide +kernel
theorem dX6_init_104 : decode cX6_init 104 = .ok (.aload_n 0, 1) := by decide +kernel
theorem dX6_init_105 : decode cX6_init 105 = .ok (.new 16, 3) := by decide +kernel
theorem dX6_init_108 : decode cX6_init 108 = .ok (.dup, 1) := by decide +kernel
theorem dX6_init_109 : decode cX6_init 109 = .ok (.invokespecial 18, 3) := by decide +kernel
theorem dX6_init_112 : decode cX6_init 112 = .ok (.putfield 61, 3) := by decide +kernel
theorem dX6_init_115 : decode cX6_init 115 = .ok (.aload_n 0, 1) := by decide +kernel
theorem dX6_init_116 : decode cX6_init 116 = .ok (.new 23, 3) := by decide +kernel
theorem dX6_init_119 : decode cX6_init 119 = .ok (.dup, 1) := by decide +kernel
theorem dX6_init_120 : decode cX6_init 120 = .ok (.aload_n 0, 1) := by decide +kernel
theorem dX6_init_121 : decode cX6_init 121 = .ok (.getfield 61, 3) := by decide +kernel
theorem dX6_init_124 : decode cX6_init 124 = .ok (.invokespecial 25, 3) := by decide +kernel
theorem dX6_init_127 : decode cX6_init 127 = .ok (.putfield 64, 3) := by decide +kernel
theorem dX6_init_130 : decode cX6_init 130 = .ok (.return_, 1) := by decide +kernel
theorem dX6_letter_0 : decode cX6_letter 0 = .ok (.iload_n 1, 1) := by decide +kernel
theorem dX6_letter_1 : decode cX6_letter 1 = .ok (.bipush 32, 2) := by decide +kernel
theorem dX6_letter_3 : decode cX6_letter 3 = .ok (.if_icmp .lt 9, 3) := by decide +kernel
theorem dX6_letter_6 : decode cX6_letter 6 = .ok (.iload_n 1, 1) := by decide +kernel
theorem dX6_letter_7 : decode cX6_letter 7 = .ok (.bipush 126, 2) := by decide +kernel
theorem dX6_letter_9 : decode cX6_letter 9 = .ok (.if_icmp .le 6, 3) := by decide +kernel
theorem dX6_letter_12 : decode cX6_letter 12 = .ok (.bipush (-102), 2) := by decide +kernel
theorem dX6_letter_14 : decode cX6_letter 14 = .ok (.ireturn, 1) := by decide +kernel
theorem dX6_letter_15 : decode cX6_letter 15 = .ok (.aload_n 0, 1) := by decide +kernel
theorem dX6_letter_16 : decode cX6_letter 16 = .ok (.getfield 12, 3) := by decide +kernel
theorem dX6_letter_19 : decode cX6_letter 19 = .ok (.iload_n 1, 1) := by decide +kernel
theorem dX6_letter_20 : decode cX6_letter 20 = .ok (.invokevirtual 67, 3) := by decide +kernel
theorem dX6_letter_23 : decode cX6_letter 23 = .ok (.ifCond .eq 13, 3) := by decide +kernel
theorem dX6_letter_26 : decode cX6_letter 26 = .ok (.aload_n 0, 1) := by decide +kernel
theorem dX6_letter_27 : decode cX6_letter 27 = .ok (.getfield 12, 3) := by decide +kernel
theorem dX6_letter_30 : decode cX6_letter 30 = .ok (.getfield 71, 3) := by decide +kernel
theorem dX6_letter_33 : decode cX6_letter 33 = .ok (.goto 5, 3) := by decide +kernel
theorem dX6_letter_36 : decode cX6_letter 36 = .ok (.bipush (-104), 2) := by decide +kernel
theorem dX6_letter_38 : decode cX6_letter 38 = .ok (.ireturn, 1) := by decide +kernel
theorem dX6_blank_0 : decode cX6_blank 0 = .ok (.aload_n 0, 1) := by decide +kernel
theorem dX6_blank_1 : decode cX6_blank 1 = .ok (.getfield 12, 3) := by decide +kernel
theorem dX6_blank_4 : decode cX6_blank 4 = .ok (.getfield 71, 3) := by decide +kernel
theorem dX6_blank_7 : decode cX6_blank 7 = .ok (.istore_n 1, 1) := by decide +kernel
theorem dX6_blank_8 : decode cX6_blank 8 = .ok (.aload_n 0, 1) := by decide +kernel
theorem dX6_blank_9 : decode cX6_blank 9 = .ok (.getfield 12, 3) := by decide +kernel
theorem dX6_blank_12 : decode cX6_blank 12 = .ok (.iconst 0, 1) := by decide +kernel
theorem dX6_blank_13 : decode cX6_blank 13 = .ok (.putfield 71, 3) := by decide +kernel
theorem dX6_blank_16 : decode cX6_blank 16 = .ok (.iload_n 1, 1) := by decide +kernel
theorem dX6_blank_17 : decode cX6_blank 17 = .ok (.ireturn, 1) := by decide +kernel
theorem dX6_fault_0 : decode cX6_fault 0 = .ok (.aload_n 0, 1) := by decide +kernel
theorem dX6_fault_1 : decode cX6_fault 1 = .ok (.getfield 12, 3) := by decide +kernel
theorem dX6_fault_4 : decode cX6_fault 4 = .ok (.aload_n 0, 1) := by decide +kernel
theorem dX6_fault_5 : decode cX6_fault 5 = .ok (.getfield 61, 3) := by decide +kernel
theorem dX6_fault_8 : decode cX6_fault 8 = .ok (.invokevirtual 75, 3) := by decide +kernel
theorem dX6_fault_11 : decode cX6_fault 11 = .ok (.ireturn, 1) := by decide +kernel
theorem dX6_graph_0 : decode cX6_graph 0 = .ok (.aload_n 0, 1) := by decide +kernel
theorem dX6_graph_1 : decode cX6_graph 1 = .ok (.getfield 12, 3) := by decide +kernel
theorem dX6_graph_4 : decode cX6_graph 4 = .ok (.aload_n 0, 1) := by decide +kernel
theorem dX6_graph_5 : decode cX6_graph 5 = .ok (.getfield 61, 3) := by decide +kernel
theorem dX6_graph_8 : decode cX6_graph 8 = .ok (.invokevirtual 75, 3) := by decide +kernel
theorem dX6_graph_11 : decode cX6_graph 11 = .ok (.aload_n 0, 1) := by decide +kernel
theorem dX6_graph_12 : decode cX6_graph 12 = .ok (.getfield 12, 3) := by decide +kernel
theorem dX6_graph_15 : decode cX6_graph 15 = .ok (.getfield 71, 3) := by decide +kernel
theorem dX6_graph_18 : decode cX6_graph 18 = .ok (.if_icmp .lt 30, 3) := by decide +kernel
theorem dX6_graph_21 : decode cX6_graph 21 = .ok (.aload_n 0, 1) := by decide +kernel
theorem dX6_graph_22 : decode cX6_graph 22 = .ok (.getfield 12, 3) := by decide +kernel
theorem dX6_graph_25 : decode cX6_graph 25 = .ok (.getfield 79, 3) := by decide +kernel
theorem dX6_graph_28 : decode cX6_graph 28 = .ok (.ifCond .eq 20, 3) := by decide +kernel
theorem dX6_graph_31 : decode cX6_graph 31 = .ok (.aload_n 0, 1) := by decide +kernel
theorem dX6_graph_32 : decode cX6_graph 32 = .ok (.getfield 12, 3) := by decide +kernel
theorem dX6_graph_35 : decode cX6_graph 35 = .ok (.getfield 83, 3) := by decide +kernel
theorem dX6_graph_38 : decode cX6_graph 38 = .ok (.aload_n 0, 1) := by decide +kernel
theorem dX6_graph_39 : decode cX6_graph 39 = .ok (.getfield 61, 3) := by decide +kernel
theorem dX6_graph_42 : decode cX6_graph 42 = .ok (.getfield 86, 3) := by decide +kernel
theorem dX6_graph_45 : decode cX6_graph 45 = .ok (.if_icmp .lt 6, 3) := by decide +kernel
theorem dX6_graph_48 : decode cX6_graph 48 = .ok (.bipush (-103), 2) := by decide +kernel
theorem dX6_graph_50 : decode cX6_graph 50 = .ok (.ireturn, 1) := by decide +kernel
theorem dX6_graph_51 : decode cX6_graph 51 = .ok (.aload_n 0, 1) := by decide +kernel
theorem dX6_graph_52 : decode cX6_graph 52 = .ok (.getfield 12, 3) := by decide +kernel
theorem dX6_graph_55 : decode cX6_graph 55 = .ok (.iconst 0, 1) := by decide +kernel
theorem dX6_graph_56 : decode cX6_graph 56 = .ok (.putfield 71, 3) := by decide +kernel
theorem dX6_graph_59 : decode cX6_graph 59 = .ok (.aload_n 0, 1) := by decide +kernel
theorem dX6_graph_60 : decode cX6_graph 60 = .ok (.dup, 1) := by decide +kernel
theorem dX6_graph_61 : decode cX6_graph 61 = .ok (.getfield 89, 3) := by decide +kernel
theorem dX6_graph_64 : decode cX6_graph 64 = .ok (.iconst 1, 1) := by decide +kernel
theorem dX6_graph_65 : decode cX6_graph 65 = .ok (.iadd, 1) := by decide +kernel
theorem dX6_graph_66 : decode cX6_graph 66 = .ok (.putfield 89, 3) := by decide +kernel
theorem dX6_graph_69 : decode cX6_graph 69 = .ok (.aload_n 0, 1) := by decide +kernel
theorem dX6_graph_70 : decode cX6_graph 70 = .ok (.iconst 0, 1) := by decide +kernel
theorem dX6_graph_71 : decode cX6_graph 71 = .ok (.putfield 92, 3) := by decide +kernel
theorem dX6_graph_74 : decode cX6_graph 74 = .ok (.aload_n 0, 1) := by decide +kernel
theorem dX6_graph_75 : decode cX6_graph 75 = .ok (.getfield 44, 3) := by decide +kernel
theorem dX6_graph_78 : decode cX6_graph 78 = .ok (.iconst 0, 1) := by decide +kernel
theorem dX6_graph_79 : decode cX6_graph 79 = .ok (.putfield 95, 3) := by decide +kernel
theorem dX6_graph_82 : decode cX6_graph 82 = .ok (.aload_n 0, 1) := by decide +kernel
theorem dX6_graph_83 : decode cX6_graph 83 = .ok (.getfield 51, 3) := by decide +kernel
theorem dX6_graph_86 : decode cX6_graph 86 = .ok (.iconst 0, 1) := by decide +kernel
theorem dX6_graph_87 : decode cX6_graph 87 = .ok (.putfield 96, 3) := by decide +kernel
theorem dX6_graph_90 : decode cX6_graph 90 = .ok (.aload_n 0, 1) := by decide +kernel
theorem dX6_graph_91 : decode cX6_graph 91 = .ok (.getfield 19, 3) := by decide +kernel
theorem dX6_graph_94 : decode cX6_graph 94 = .ok (.aload_n 0, 1) := by decide +kernel
theorem dX6_graph_95 : decode cX6_graph 95 = .ok (.getfield 61, 3) := by decide +kernel
theorem dX6_graph_98 : decode cX6_graph 98 = .ok (.invokevirtual 97, 3) := by decide +kernel
theorem dX6_graph_101 : decode cX6_graph 101 = .ok (.aload_n 0, 1) := by decide +kernel
theorem dX6_graph_102 : decode cX6_graph 102 = .ok (.invokevirtual 100, 3) := by decide +kernel
theorem dX6_graph_105 : decode cX6_graph 105 = .ok (.aload_n 0, 1) := by decide +kernel
theorem dX6_graph_106 : decode cX6_graph 106 = .ok (.getfield 19, 3) := by decide +kernel
theorem dX6_graph_109 : decode cX6_graph 109 = .ok (.getfield 86, 3) := by decide +kernel
theorem dX6_graph_112 : decode cX6_graph 112 = .ok (.ireturn, 1) := by decide +kernel
theorem dX6_node_0 : decode cX6_node 0 = .ok (.aload_n 0, 1) := by decide +kernel
theorem dX6_node_1 : decode cX6_node 1 = .ok (.getfield 19, 3) := by decide +kernel
theorem dX6_node_4 : decode cX6_node 4 = .ok (.iload_n 1, 1) := by decide +kernel
theorem dX6_node_5 : decode cX6_node 5 = .ok (.invokevirtual 103, 3) := by decide +kernel
theorem dX6_node_8 : decode cX6_node 8 = .ok (.ifCond .ne 6, 3) := by decide +kernel
theorem dX6_node_11 : decode cX6_node 11 = .ok (.bipush (-101), 2) := by decide +kernel
theorem dX6_node_13 : decode cX6_node 13 = .ok (.ireturn, 1) := by decide +kernel
theorem dX6_node_14 : decode cX6_node 14 = .ok (.iload_n 2, 1) := by decide +kernel
theorem dX6_node_15 : decode cX6_node 15 = .ok (.tableswitch 162 0 9 #[53, 63, 73, 83, 92, 101, 118, 135, 144, 153], 53) := by decide +kernel
theorem dX6_node_68 : decode cX6_node 68 = .ok (.aload_n 0, 1) := by decide +kernel
theorem dX6_node_69 : decode cX6_node 69 = .ok (.getfield 19, 3) := by decide +kernel
theorem dX6_node_72 : decode cX6_node 72 = .ok (.getfield 106, 3) := by decide +kernel
theorem dX6_node_75 : decode cX6_node 75 = .ok (.iload_n 1, 1) := by decide +kernel
theorem dX6_node_76 : decode cX6_node 76 = .ok (.iaload, 1) := by decide +kernel
theorem dX6_node_77 : decode cX6_node 77 = .ok (.ireturn, 1) := by decide +kernel
theorem dX6_node_78 : decode cX6_node 78 = .ok (.aload_n 0, 1) := by decide +kernel
theorem dX6_node_79 : decode cX6_node 79 = .ok (.getfield 19, 3) := by decide +kernel
theorem dX6_node_82 : decode cX6_node 82 = .ok (.getfield 110, 3) := by decide +kernel
theorem dX6_node_85 : decode cX6_node 85 = .ok (.iload_n 1, 1) := by decide +kernel
theorem dX6_node_86 : decode cX6_node 86 = .ok (.iaload, 1) := by decide +kernel
theorem dX6_node_87 : decode cX6_node 87 = .ok (.ireturn, 1) := by decide +kernel
theorem dX6_node_88 : decode cX6_node 88 = .ok (.aload_n 0, 1) := by decide +kernel
theorem dX6_node_89 : decode cX6_node 89 = .ok (.getfield 19, 3) := by decide +kernel
theorem dX6_node_92 : decode cX6_node 92 = .ok (.getfield 113, 3) := by decide +kernel
theorem dX6_node_95 : decode cX6_node 95 = .ok (.iload_n 1, 1) := by decide +kernel
theorem dX6_node_96 : decode cX6_node 96 = .ok (.iaload, 1) := by decide +kernel
theorem dX6_node_97 : decode cX6_node 97 = .ok (.ireturn, 1) := by decide +kernel
theorem dX6_node_98 : decode cX6_node 98 = .ok (.aload_n 0, 1) := by decide +kernel
theorem dX6_node_99 : decode cX6_node 99 = .ok (.getfield 28, 3) := by decide +kernel
theorem dX6_node_102 : decode cX6_node 102 = .ok (.iload_n 1, 1) := by decide +kernel
theorem dX6_node_103 : decode cX6_node 103 = .ok (.invokevirtual 116, 3) := by decide +kernel
theorem dX6_node_106 : decode cX6_node 106 = .ok (.ireturn, 1) := by decide +kernel
theorem dX6_node_107 : decode cX6_node 107 = .ok (.aload_n 0, 1) := by decide +kernel
theorem dX6_node_108 : decode cX6_node 108 = .ok (.getfield 28, 3) := by decide +kernel
theorem dX6_node_111 : decode cX6_node 111 = .ok (.iload_n 1, 1) := by decide +kernel
theorem dX6_node_112 : decode cX6_node 112 = .ok (.invokevirtual 120, 3) := by decide +kernel
theorem dX6_node_115 : decode cX6_node 115 = .ok (.ireturn, 1) := by decide +kernel
theorem dX6_node_116 : decode cX6_node 116 = .ok (.aload_n 0, 1) := by decide +kernel
theorem dX6_node_117 : decode cX6_node 117 = .ok (.getfield 28, 3) := by decide +kernel
theorem dX6_node_120 : decode cX6_node 120 = .ok (.iload_n 1, 1) := by decide +kernel
theorem dX6_node_121 : decode cX6_node 121 = .ok (.invokevirtual 123, 3) := by decide +kernel
theorem dX6_node_124 : decode cX6_node 124 = .ok (.ifCond .eq 7, 3) := by decide +kernel
theorem dX6_node_127 : decode cX6_node 127 = .ok (.iconst 1, 1) := by decide +kernel
theorem dX6_node_128 : decode cX6_node 128 = .ok (.goto 4, 3) := by decide +kernel
theorem dX6_node_131 : decode cX6_node 131 = .ok (.iconst 0, 1) := by decide +kernel
theorem dX6_node_132 : decode cX6_node 132 = .ok (.ireturn, 1) := by decide +kernel
theorem dX6_node_133 : decode cX6_node 133 = .ok (.aload_n 0, 1) := by decide +kernel
theorem dX6_node_134 : decode cX6_node 134 = .ok (.getfield 28, 3) := by decide +kernel
theorem dX6_node_137 : decode cX6_node 137 = .ok (.iload_n 1, 1) := by decide +kernel
theorem dX6_node_138 : decode cX6_node 138 = .ok (.invokevirtual 126, 3) := by decide +kernel
theorem dX6_node_141 : decode cX6_node 141 = .ok (.ifCond .eq 7, 3) := by decide +kernel
theorem dX6_node_144 : decode cX6_node 144 = .ok (.iconst 1, 1) := by decide +kernel
theorem dX6_node_145 : decode cX6_node 145 = .ok (.goto 4, 3) := by decide +kernel
theorem dX6_node_148 : decode cX6_node 148 = .ok (.iconst 0, 1) := by decide +kernel
theorem dX6_node_149 : decode cX6_node 149 = .ok (.ireturn, 1) := by decide +kernel
theorem dX6_node_150 : decode cX6_node 150 = .ok (.aload_n 0, 1) := by decide +kernel
theorem dX6_node_151 : decode cX6_node 151 = .ok (.getfield 28, 3) := by decide +kernel
theorem dX6_node_154 : decode cX6_node 154 = .ok (.iload_n 1, 1) := by decide +kernel
theorem dX6_node_155 : decode cX6_node 155 = .ok (.invokevirtual 129, 3) := by decide +kernel
theorem dX6_node_158 : decode cX6_node 158 = .ok (.ireturn, 1) := by decide +kernel
theorem dX6_node_159 : decode cX6_node 159 = .ok (.aload_n 0, 1) := by decide +kernel
theorem dX6_node_160 : decode cX6_node 160 = .ok (.getfield 51, 3) := by decide +kernel
theorem dX6_node_163 : decode cX6_node 163 = .ok (.iload_n 1, 1) := by decide +kernel
theorem dX6_node_164 : decode cX6_node 164 = .ok (.invokevirtual 132, 3) := by decide +kernel
theorem dX6_node_167 : decode cX6_node 167 = .ok (.ireturn, 1) := by decide +kernel
theorem dX6_node_168 : decode cX6_node 168 = .ok (.aload_n 0, 1) := by decide +kernel
theorem dX6_node_169 : decode cX6_node 169 = .ok (.getfield 51, 3) := by decide +kernel
theorem dX6_node_172 : decode cX6_node 172 = .ok (.iload_n 1, 1) := by decide +kernel
theorem dX6_node_173 : decode cX6_node 173 = .ok (.invokevirtual 135, 3) := by decide +kernel
theorem dX6_node_176 : decode cX6_node 176 = .ok (.ireturn, 1) := by decide +kernel
theorem dX6_node_177 : decode cX6_node 177 = .ok (.bipush (-102), 2) := by decide +kernel
theorem dX6_node_179 : decode cX6_node 179 = .ok (.ireturn, 1) := by decide +kernel
theorem dX6_as_0 : decode cX6_as 0 = .ok (.aload_n 0, 1) := by decide +kernel
theorem dX6_as_1 : decode cX6_as 1 = .ok (.getfield 19, 3) := by decide +kernel
theorem dX6_as_4 : decode cX6_as 4 = .ok (.iload_n 1, 1) := by decide +kernel
theorem dX6_as_5 : decode cX6_as 5 = .ok (.invokevirtual 103, 3) := by decide +kernel
theorem dX6_as_8 : decode cX6_as 8 = .ok (.ifCond .ne 6, 3) := by decide +kernel
theorem dX6_as_11 : decode cX6_as 11 = .ok (.bipush (-101), 2) := by decide +kernel
theorem dX6_as_13 : decode cX6_as 13 = .ok (.ireturn, 1) := by decide +kernel
theorem dX6_as_14 : decode cX6_as 14 = .ok (.iload_n 2, 1) := by decide +kernel
theorem dX6_as_15 : decode cX6_as 15 = .ok (.invokestatic 138, 3) := by decide +kernel
theorem dX6_as_18 : decode cX6_as 18 = .ok (.ifCond .ne 6, 3) := by decide +kernel
theorem dX6_as_21 : decode cX6_as 21 = .ok (.bipush (-102), 2) := by decide +kernel
theorem dX6_as_23 : decode cX6_as 23 = .ok (.ireturn, 1) := by decide +kernel
theorem dX6_as_24 : decode cX6_as 24 = .ok (.aload_n 0, 1) := by decide +kernel
theorem dX6_as_25 : decode cX6_as 25 = .ok (.getfield 19, 3) := by decide +kernel
theorem dX6_as_28 : decode cX6_as 28 = .ok (.getfield 106, 3) := by decide +kernel
theorem dX6_as_31 : decode cX6_as 31 = .ok (.iload_n 1, 1) := by decide +kernel
theorem dX6_as_32 : decode cX6_as 32 = .ok (.iaload, 1) := by decide +kernel
theorem dX6_as_33 : decode cX6_as 33 = .ok (.istore_n 3, 1) := by decide +kernel
theorem dX6_as_34 : decode cX6_as 34 = .ok (.iload_n 2, 1) := by decide +kernel
theorem dX6_as_35 : decode cX6_as 35 = .ok (.iload_n 3, 1) := by decide +kernel
theorem dX6_as_36 : decode cX6_as 36 = .ok (.if_icmp .eq 17, 3) := by decide +kernel
theorem dX6_as_39 : decode cX6_as 39 = .ok (.iload_n 2, 1) := by decide +kernel
theorem dX6_as_40 : decode cX6_as 40 = .ok (.ifCond .eq 13, 3) := by decide +kernel
theorem dX6_as_43 : decode cX6_as 43 = .ok (.iload_n 2, 1) := by decide +kernel
theorem dX6_as_44 : decode cX6_as 44 = .ok (.iconst 3, 1) := by decide +kernel
theorem dX6_as_45 : decode cX6_as 45 = .ok (.if_icmp .ne 12, 3) := by decide +kernel
theorem dX6_as_48 : decode cX6_as 48 = .ok (.iload_n 3, 1) := by decide +kernel
theorem dX6_as_49 : decode cX6_as 49 = .ok (.iconst 4, 1) := by decide +kernel
theorem dX6_as_50 : decode cX6_as 50 = .ok (.if_icmp .ne 7, 3) := by decide +kernel
theorem dX6_as_53 : decode cX6_as 53 = .ok (.iconst 1, 1) := by decide +kernel
theorem dX6_as_54 : decode cX6_as 54 = .ok (.goto 4, 3) := by decide +kernel
theorem dX6_as_57 : decode cX6_as 57 = .ok (.iconst 0, 1) := by decide +kernel
theorem dX6_as_58 : decode cX6_as 58 = .ok (.istore 4, 2) := by decide +kernel
theorem dX6_as_60 : decode cX6_as 60 = .ok (.iload 4, 2) := by decide +kernel
theorem dX6_as_62 : decode cX6_as 62 = .ok (.ifCond .eq 7, 3) := by decide +kernel
theorem dX6_as_65 : decode cX6_as 65 = .ok (.iload_n 1, 1) := by decide +kernel
theorem dX6_as_66 : decode cX6_as 66 = .ok (.goto 4, 3) := by decide +kernel
theorem dX6_as_69 : decode cX6_as 69 = .ok (.iconst (-1), 1) := by decide +kernel
theorem dX6_as_70 : decode cX6_as 70 = .ok (.ireturn, 1) := by decide +kernel
theorem dX6_dominates_0 : decode cX6_dominates 0 = .ok (.aload_n 0, 1) := by decide +kernel
theorem dX6_dominates_1 : decode cX6_dominates 1 = .ok (.getfield 19, 3) := by decide +kernel
theorem dX6_dominates_4 : decode cX6_dominates 4 = .ok (.iload_n 1, 1) := by decide +kernel
theorem dX6_dominates_5 : decode cX6_dominates 5 = .ok (.invokevirtual 103, 3) := by decide +kernel
theorem dX6_dominates_8 : decode cX6_dominates 8 = .ok (.ifCond .eq 14, 3) := by decide +kernel
theorem dX6_dominates_11 : decode cX6_dominates 11 = .ok (.aload_n 0, 1) := by decide +kernel
theorem dX6_dominates_12 : decode cX6_dominates 12 = .ok (.getfield 19, 3) := by decide +kernel
theorem dX6_dominates_15 : decode cX6_dominates 15 = .ok (.iload_n 2, 1) := by decide +kernel
theorem dX6_dominates_16 : decode cX6_dominates 16 = .ok (.invokevirtual 103, 3) := by decide +kernel
theorem dX6_dominates_19 : decode cX6_dominates 19 = .ok (.ifCond .ne 6, 3) := by decide +kernel
theorem dX6_dominates_22 : decode cX6_dominates 22 = .ok (.bipush (-101), 2) := by decide +kernel
theorem dX6_dominates_24 : decode cX6_dominates 24 = .ok (.ireturn, 1) := by decide +kernel
theorem dX6_dominates_25 : decode cX6_dominates 25 = .ok (.aload_n 0, 1) := by decide +kernel
theorem dX6_dominates_26 : decode cX6_dominates 26 = .ok (.getfield 28, 3) := by decide +kernel
theorem dX6_dominates_29 : decode cX6_dominates 29 = .ok (.iload_n 1, 1) := by decide +kernel
theorem dX6_dominates_30 : decode cX6_dominates 30 = .ok (.iload_n 2, 1) := by decide +kernel
theorem dX6_dominates_31 : decode cX6_dominates 31 = .ok (.invokevirtual 141, 3) := by decide +kernel
theorem dX6_dominates_34 : decode cX6_dominates 34 = .ok (.ifCond .eq 7, 3) := by decide +kernel
theorem dX6_dominates_37 : decode cX6_dominates 37 = .ok (.iconst 1, 1) := by decide +kernel
theorem dX6_dominates_38 : decode cX6_dominates 38 = .ok (.goto 4, 3) := by decide +kernel
theorem dX6_dominates_41 : decode cX6_dominates 41 = .ok (.iconst 0, 1) := by decide +kernel
theorem dX6_dominates_42 : decode cX6_dominates 42 = .ok (.ireturn, 1) := by decide +kernel
theorem dX6_edge_0 : decode cX6_edge 0 = .ok (.aload_n 0, 1) := by decide +kernel
theorem dX6_edge_1 : decode cX6_edge 1 = .ok (.getfield 19, 3) := by decide +kernel
theorem dX6_edge_4 : decode cX6_edge 4 = .ok (.iload_n 1, 1) := by decide +kernel
theorem dX6_edge_5 : decode cX6_edge 5 = .ok (.invokevirtual 103, 3) := by decide +kernel
theorem dX6_edge_8 : decode cX6_edge 8 = .ok (.ifCond .ne 6, 3) := by decide +kernel
theorem dX6_edge_11 : decode cX6_edge 11 = .ok (.bipush (-101), 2) := by decide +kernel
theorem dX6_edge_13 : decode cX6_edge 13 = .ok (.ireturn, 1) := by decide +kernel
theorem dX6_edge_14 : decode cX6_edge 14 = .ok (.iload_n 2, 1) := by decide +kernel
theorem dX6_edge_15 : decode cX6_edge 15 = .ok (.invokestatic 145, 3) := by decide +kernel
theorem dX6_edge_18 : decode cX6_edge 18 = .ok (.ifCond .ne 6, 3) := by decide +kernel
theorem dX6_edge_21 : decode cX6_edge 21 = .ok (.bipush (-102), 2) := by decide +kernel
theorem dX6_edge_23 : decode cX6_edge 23 = .ok (.ireturn, 1) := by decide +kernel
theorem dX6_edge_24 : decode cX6_edge 24 = .ok (.aload_n 0, 1) := by decide +kernel
theorem dX6_edge_25 : decode cX6_edge 25 = .ok (.getfield 28, 3) := by decide +kernel
theorem dX6_edge_28 : decode cX6_edge 28 = .ok (.iload_n 1, 1) := by decide +kernel
theorem dX6_edge_29 : decode cX6_edge 29 = .ok (.iload_n 2, 1) := by decide +kernel
theorem dX6_edge_30 : decode cX6_edge 30 = .ok (.invokevirtual 148, 3) := by decide +kernel
theorem dX6_edge_33 : decode cX6_edge 33 = .ok (.ireturn, 1) := by decide +kernel
theorem dX6_aim_0 : decode cX6_aim 0 = .ok (.aload_n 0, 1) := by decide +kernel
theorem dX6_aim_1 : decode cX6_aim 1 = .ok (.getfield 19, 3) := by decide +kernel
theorem dX6_aim_4 : decode cX6_aim 4 = .ok (.iload_n 1, 1) := by decide +kernel
theorem dX6_aim_5 : decode cX6_aim 5 = .ok (.invokevirtual 103, 3) := by decide +kernel
theorem dX6_aim_8 : decode cX6_aim 8 = .ok (.ifCond .eq 14, 3) := by decide +kernel
theorem dX6_aim_11 : decode cX6_aim 11 = .ok (.aload_n 0, 1) := by decide +kernel
theorem dX6_aim_12 : decode cX6_aim 12 = .ok (.getfield 19, 3) := by decide +kernel
theorem dX6_aim_15 : decode cX6_aim 15 = .ok (.iload_n 3, 1) := by decide +kernel
theorem dX6_aim_16 : decode cX6_aim 16 = .ok (.invokevirtual 103, 3) := by decide +kernel
theorem dX6_aim_19 : decode cX6_aim 19 = .ok (.ifCond .ne 6, 3) := by decide +kernel
theorem dX6_aim_22 : decode cX6_aim 22 = .ok (.bipush (-101), 2) := by decide +kernel
theorem dX6_aim_24 : decode cX6_aim 24 = .ok (.ireturn, 1) := by decide +kernel
theorem dX6_aim_25 : decode cX6_aim 25 = .ok (.iload_n 2, 1) := by decide +kernel
theorem dX6_aim_26 : decode cX6_aim 26 = .ok (.invokestatic 145, 3) := by decide +kernel
theorem dX6_aim_29 : decode cX6_aim 29 = .ok (.ifCond .ne 6, 3) := by decide +kernel
theorem dX6_aim_32 : decode cX6_aim 32 = .ok (.bipush (-102), 2) := by decide +kernel
theorem dX6_aim_34 : decode cX6_aim 34 = .ok (.ireturn, 1) := by decide +kernel
theorem dX6_aim_35 : decode cX6_aim 35 = .ok (.aload_n 0, 1) := by decide +kernel
theorem dX6_aim_36 : decode cX6_aim 36 = .ok (.getfield 19, 3) := by decide +kernel
theorem dX6_aim_39 : decode cX6_aim 39 = .ok (.iload_n 1, 1) := by decide +kernel
theorem dX6_aim_40 : decode cX6_aim 40 = .ok (.iload_n 2, 1) := by decide +kernel
theorem dX6_aim_41 : decode cX6_aim 41 = .ok (.invokevirtual 152, 3) := by decide +kernel
theorem dX6_aim_44 : decode cX6_aim 44 = .ok (.istore 4, 2) := by decide +kernel
theorem dX6_aim_46 : decode cX6_aim 46 = .ok (.aload_n 0, 1) := by decide +kernel
theorem dX6_aim_47 : decode cX6_aim 47 = .ok (.getfield 19, 3) := by decide +kernel
theorem dX6_aim_50 : decode cX6_aim 50 = .ok (.iload_n 1, 1) := by decide +kernel
theorem dX6_aim_51 : decode cX6_aim 51 = .ok (.iload_n 2, 1) := by decide +kernel
theorem dX6_aim_52 : decode cX6_aim 52 = .ok (.iload_n 3, 1) := by decide +kernel
theorem dX6_aim_53 : decode cX6_aim 53 = .ok (.invokevirtual 155, 3) := by decide +kernel
theorem dX6_aim_56 : decode cX6_aim 56 = .ok (.aload_n 0, 1) := by decide +kernel
theorem dX6_aim_57 : decode cX6_aim 57 = .ok (.invokevirtual 100, 3) := by decide +kernel
theorem dX6_aim_60 : decode cX6_aim 60 = .ok (.iload 4, 2) := by decide +kernel
theorem dX6_aim_62 : decode cX6_aim 62 = .ok (.ireturn, 1) := by decide +kernel
theorem dX6_be_0 : decode cX6_be 0 = .ok (.aload_n 0, 1) := by decide +kernel
theorem dX6_be_1 : decode cX6_be 1 = .ok (.getfield 19, 3) := by decide +kernel
theorem dX6_be_4 : decode cX6_be 4 = .ok (.iload_n 1, 1) := by decide +kernel
theorem dX6_be_5 : decode cX6_be 5 = .ok (.invokevirtual 103, 3) := by decide +kernel
theorem dX6_be_8 : decode cX6_be 8 = .ok (.ifCond .ne 6, 3) := by decide +kernel
theorem dX6_be_11 : decode cX6_be 11 = .ok (.bipush (-101), 2) := by decide +kernel
theorem dX6_be_13 : decode cX6_be 13 = .ok (.ireturn, 1) := by decide +kernel
theorem dX6_be_14 : decode cX6_be 14 = .ok (.iload_n 2, 1) := by decide +kernel
theorem dX6_be_15 : decode cX6_be 15 = .ok (.invokestatic 138, 3) := by decide +kernel
theorem dX6_be_18 : decode cX6_be 18 = .ok (.ifCond .ne 6, 3) := by decide +kernel
theorem dX6_be_21 : decode cX6_be 21 = .ok (.bipush (-102), 2) := by decide +kernel
theorem dX6_be_23 : decode cX6_be 23 = .ok (.ireturn, 1) := by decide +kernel
theorem dX6_be_24 : decode cX6_be 24 = .ok (.aload_n 0, 1) := by decide +kernel
theorem dX6_be_25 : decode cX6_be 25 = .ok (.getfield 19, 3) := by decide +kernel
theorem dX6_be_28 : decode cX6_be 28 = .ok (.getfield 106, 3) := by decide +kernel
theorem dX6_be_31 : decode cX6_be 31 = .ok (.iload_n 1, 1) := by decide +kernel
theorem dX6_be_32 : decode cX6_be 32 = .ok (.iaload, 1) := by decide +kernel
theorem dX6_be_33 : decode cX6_be 33 = .ok (.istore_n 3, 1) := by decide +kernel
theorem dX6_be_34 : decode cX6_be 34 = .ok (.aload_n 0, 1) := by decide +kernel
theorem dX6_be_35 : decode cX6_be 35 = .ok (.getfield 19, 3) := by decide +kernel
theorem dX6_be_38 : decode cX6_be 38 = .ok (.getfield 106, 3) := by decide +kernel
theorem dX6_be_41 : decode cX6_be 41 = .ok (.iload_n 1, 1) := by decide +kernel
theorem dX6_be_42 : decode cX6_be 42 = .ok (.iload_n 2, 1) := by decide +kernel
theorem dX6_be_43 : decode cX6_be 43 = .ok (.iastore, 1) := by decide +kernel
theorem dX6_be_44 : decode cX6_be 44 = .ok (.aload_n 0, 1) := by decide +kernel
theorem dX6_be_45 : decode cX6_be 45 = .ok (.invokevirtual 100, 3) := by decide +kernel
theorem dX6_be_48 : decode cX6_be 48 = .ok (.iload_n 3, 1) := by decide +kernel
theorem dX6_be_49 : decode cX6_be 49 = .ok (.ireturn, 1) := by decide +kernel
theorem dX6_walk_0 : decode cX6_walk 0 = .ok (.iload_n 1, 1) := by decide +kernel
theorem dX6_walk_1 : decode cX6_walk 1 = .ok (.ifCond .ge 6, 3) := by decide +kernel
theorem dX6_walk_4 : decode cX6_walk 4 = .ok (.bipush (-102), 2) := by decide +kernel
theorem dX6_walk_6 : decode cX6_walk 6 = .ok (.ireturn, 1) := by decide +kernel
theorem dX6_walk_7 : decode cX6_walk 7 = .ok (.aload_n 0, 1) := by decide +kernel
theorem dX6_walk_8 : decode cX6_walk 8 = .ok (.getfield 19, 3) := by decide +kernel
theorem dX6_walk_11 : decode cX6_walk 11 = .ok (.getfield 86, 3) := by decide +kernel
theorem dX6_walk_14 : decode cX6_walk 14 = .ok (.ifCond .ne 6, 3) := by decide +kernel
theorem dX6_walk_17 : decode cX6_walk 17 = .ok (.bipush (-103), 2) := by decide +kernel
theorem dX6_walk_19 : decode cX6_walk 19 = .ok (.ireturn, 1) := by decide +kernel
theorem dX6_walk_20 : decode cX6_walk 20 = .ok (.aload_n 0, 1) := by decide +kernel
theorem dX6_walk_21 : decode cX6_walk 21 = .ok (.getfield 44, 3) := by decide +kernel
theorem dX6_walk_24 : decode cX6_walk 24 = .ok (.aload_n 0, 1) := by decide +kernel
theorem dX6_walk_25 : decode cX6_walk 25 = .ok (.getfield 19, 3) := by decide +kernel
theorem dX6_walk_28 : decode cX6_walk 28 = .ok (.iload_n 1, 1) := by decide +kernel
theorem dX6_walk_29 : decode cX6_walk 29 = .ok (.invokevirtual 159, 3) := by decide +kernel
theorem dX6_walk_32 : decode cX6_walk 32 = .ok (.aload_n 0, 1) := by decide +kernel
theorem dX6_walk_33 : decode cX6_walk 33 = .ok (.getfield 44, 3) := by decide +kernel
theorem dX6_walk_36 : decode cX6_walk 36 = .ok (.getfield 95, 3) := by decide +kernel
theorem dX6_walk_39 : decode cX6_walk 39 = .ok (.ireturn, 1) := by decide +kernel
theorem dX6_visit_0 : decode cX6_visit 0 = .ok (.iload_n 1, 1) := by decide +kernel
theorem dX6_visit_1 : decode cX6_visit 1 = .ok (.ifCond .lt 26, 3) := by decide +kernel
theorem dX6_visit_4 : decode cX6_visit 4 = .ok (.iload_n 1, 1) := by decide +kernel
theorem dX6_visit_5 : decode cX6_visit 5 = .ok (.aload_n 0, 1) := by decide +kernel
theorem dX6_visit_6 : decode cX6_visit 6 = .ok (.getfield 44, 3) := by decide +kernel
theorem dX6_visit_9 : decode cX6_visit 9 = .ok (.getfield 95, 3) := by decide +kernel
theorem dX6_visit_12 : decode cX6_visit 12 = .ok (.if_icmp .ge 15, 3) := by decide +kernel
theorem dX6_visit_15 : decode cX6_visit 15 = .ok (.aload_n 0, 1) := by decide +kernel
theorem dX6_visit_16 : decode cX6_visit 16 = .ok (.getfield 44, 3) := by decide +kernel
theorem dX6_visit_19 : decode cX6_visit 19 = .ok (.getfield 163, 3) := by decide +kernel
theorem dX6_visit_22 : decode cX6_visit 22 = .ok (.iload_n 1, 1) := by decide +kernel
theorem dX6_visit_23 : decode cX6_visit 23 = .ok (.iaload, 1) := by decide +kernel
theorem dX6_visit_24 : decode cX6_visit 24 = .ok (.goto 5, 3) := by decide +kernel
theorem dX6_visit_27 : decode cX6_visit 27 = .ok (.bipush (-101), 2) := by decide +kernel
theorem dX6_visit_29 : decode cX6_visit 29 = .ok (.ireturn, 1) := by decide +kernel
theorem dX6_sign_0 : decode cX6_sign 0 = .ok (.iload_n 1, 1) := by decide +kernel
theorem dX6_sign_1 : decode cX6_sign 1 = .ok (.ifCond .lt 26, 3) := by decide +kernel
theorem dX6_sign_4 : decode cX6_sign 4 = .ok (.iload_n 1, 1) := by decide +kernel
theorem dX6_sign_5 : decode cX6_sign 5 = .ok (.aload_n 0, 1) := by decide +kernel
theorem dX6_sign_6 : decode cX6_sign 6 = .ok (.getfield 37, 3) := by decide +kernel
theorem dX6_sign_9 : decode cX6_sign 9 = .ok (.getfield 166, 3) := by decide +kernel
theorem dX6_sign_12 : decode cX6_sign 12 = .ok (.if_icmp .ge 15, 3) := by decide +kernel
theorem dX6_sign_15 : decode cX6_sign 15 = .ok (.aload_n 0, 1) := by decide +kernel
theorem dX6_sign_16 : decode cX6_sign 16 = .ok (.getfield 37, 3) := by decide +kernel
theorem dX6_sign_19 : decode cX6_sign 19 = .ok (.getfield 167, 3) := by decide +kernel
theorem dX6_sign_22 : decode cX6_sign 22 = .ok (.iload_n 1, 1) := by decide +kernel
theorem dX6_sign_23 : decode cX6_sign 23 = .ok (.iaload, 1) := by decide +kernel
theorem dX6_sign_24 : decode cX6_sign 24 = .ok (.goto 5, 3) := by decide +kernel
theorem dX6_sign_27 : decode cX6_sign 27 = .ok (.bipush (-101), 2) := by decide +kernel
theorem dX6_sign_29 : decode cX6_sign 29 = .ok (.ireturn, 1) := by decide +kernel
theorem dX6_fold_0 : decode cX6_fold 0 = .ok (.iload_n 1, 1) := by decide +kernel
theorem dX6_fold_1 : decode cX6_fold 1 = .ok (.ifCond .lt 8, 3) := by decide +kernel
theorem dX6_fold_4 : decode cX6_fold 4 = .ok (.iload_n 1, 1) := by decide +kernel
theorem dX6_fold_5 : decode cX6_fold 5 = .ok (.iconst 4, 1) := by decide +kernel
theorem dX6_fold_6 : decode cX6_fold 6 = .ok (.if_icmp .lt 6, 3) := by decide +kernel
theorem dX6_fold_9 : decode cX6_fold 9 = .ok (.bipush (-102), 2) := by decide +kernel
theorem dX6_fold_11 : decode cX6_fold 11 = .ok (.ireturn, 1) := by decide +kernel
theorem dX6_fold_12 : decode cX6_fold 12 = .ok (.aload_n 0, 1) := by decide +kernel
theorem dX6_fold_13 : decode cX6_fold 13 = .ok (.getfield 19, 3) := by decide +kernel
theorem dX6_fold_16 : decode cX6_fold 16 = .ok (.getfield 86, 3) := by decide +kernel
theorem dX6_fold_19 : decode cX6_fold 19 = .ok (.ifCond .ne 6, 3) := by decide +kernel
theorem dX6_fold_22 : decode cX6_fold 22 = .ok (.bipush (-103), 2) := by decide +kernel
theorem dX6_fold_24 : decode cX6_fold 24 = .ok (.ireturn, 1) := by decide +kernel
theorem dX6_fold_25 : decode cX6_fold 25 = .ok (.aload_n 0, 1) := by decide +kernel
theorem dX6_fold_26 : decode cX6_fold 26 = .ok (.getfield 28, 3) := by decide +kernel
theorem dX6_fold_29 : decode cX6_fold 29 = .ok (.invokevirtual 168, 3) := by decide +kernel
theorem dX6_fold_32 : decode cX6_fold 32 = .ok (.ifCond .ne 5, 3) := by decide +kernel
theorem dX6_fold_35 : decode cX6_fold 35 = .ok (.iconst (-1), 1) := by decide +kernel
theorem dX6_fold_36 : decode cX6_fold 36 = .ok (.ireturn, 1) := by decide +kernel
theorem dX6_fold_37 : decode cX6_fold 37 = .ok (.iload_n 1, 1) := by decide +kernel
theorem dX6_fold_38 : decode cX6_fold 38 = .ok (.tableswitch 50 0 2 #[26, 34, 42], 26) := by decide +kernel
theorem dX6_fold_64 : decode cX6_fold 64 = .ok (.aload_n 0, 1) := by decide +kernel
theorem dX6_fold_65 : decode cX6_fold 65 = .ok (.getfield 37, 3) := by decide +kernel
theorem dX6_fold_68 : decode cX6_fold 68 = .ok (.getfield 166, 3) := by decide +kernel
theorem dX6_fold_71 : decode cX6_fold 71 = .ok (.ireturn, 1) := by decide +kernel
theorem dX6_fold_72 : decode cX6_fold 72 = .ok (.aload_n 0, 1) := by decide +kernel
theorem dX6_fold_73 : decode cX6_fold 73 = .ok (.getfield 37, 3) := by decide +kernel
theorem dX6_fold_76 : decode cX6_fold 76 = .ok (.getfield 172, 3) := by decide +kernel
theorem dX6_fold_79 : decode cX6_fold 79 = .ok (.ireturn, 1) := by decide +kernel
theorem dX6_fold_80 : decode cX6_fold 80 = .ok (.aload_n 0, 1) := by decide +kernel
theorem dX6_fold_81 : decode cX6_fold 81 = .ok (.getfield 37, 3) := by decide +kernel
theorem dX6_fold_84 : decode cX6_fold 84 = .ok (.getfield 175, 3) := by decide +kernel
theorem dX6_fold_87 : decode cX6_fold 87 = .ok (.ireturn, 1) := by decide +kernel
theorem dX6_fold_88 : decode cX6_fold 88 = .ok (.aload_n 0, 1) := by decide +kernel
theorem dX6_fold_89 : decode cX6_fold 89 = .ok (.getfield 37, 3) := by decide +kernel
theorem dX6_fold_92 : decode cX6_fold 92 = .ok (.getfield 178, 3) := by decide +kernel
theorem dX6_fold_95 : decode cX6_fold 95 = .ok (.ireturn, 1) := by decide +kernel
theorem dX6_mend_0 : decode cX6_mend 0 = .ok (.iload_n 1, 1) := by decide +kernel
theorem dX6_mend_1 : decode cX6_mend 1 = .ok (.ifCond .lt 8, 3) := by decide +kernel
theorem dX6_mend_4 : decode cX6_mend 4 = .ok (.iload_n 1, 1) := by decide +kernel
theorem dX6_mend_5 : decode cX6_mend 5 = .ok (.iconst 1, 1) := by decide +kernel
theorem dX6_mend_6 : decode cX6_mend 6 = .ok (.if_icmp .le 6, 3) := by decide +kernel
theorem dX6_mend_9 : decode cX6_mend 9 = .ok (.bipush (-102), 2) := by decide +kernel
theorem dX6_mend_11 : decode cX6_mend 11 = .ok (.ireturn, 1) := by decide +kernel
theorem dX6_mend_12 : decode cX6_mend 12 = .ok (.aload_n 0, 1) := by decide +kernel
theorem dX6_mend_13 : decode cX6_mend 13 = .ok (.getfield 19, 3) := by decide +kernel
theorem dX6_mend_16 : decode cX6_mend 16 = .ok (.getfield 86, 3) := by decide +kernel
theorem dX6_mend_19 : decode cX6_mend 19 = .ok (.ifCond .eq 11, 3) := by decide +kernel
theorem dX6_mend_22 : decode cX6_mend 22 = .ok (.aload_n 0, 1) := by decide +kernel
theorem dX6_mend_23 : decode cX6_mend 23 = .ok (.getfield 181, 3) := by decide +kernel
theorem dX6_mend_26 : decode cX6_mend 26 = .ok (.iconst 5, 1) := by decide +kernel
theorem dX6_mend_27 : decode cX6_mend 27 = .ok (.if_icmp .lt 6, 3) := by decide +kernel
theorem dX6_mend_30 : decode cX6_mend 30 = .ok (.bipush (-103), 2) := by decide +kernel
theorem dX6_mend_32 : decode cX6_mend 32 = .ok (.ireturn, 1) := by decide +kernel
theorem dX6_mend_33 : decode cX6_mend 33 = .ok (.aload_n 0, 1) := by decide +kernel
theorem dX6_mend_34 : decode cX6_mend 34 = .ok (.dup, 1) := by decide +kernel
theorem dX6_mend_35 : decode cX6_mend 35 = .ok (.getfield 181, 3) := by decide +kernel
theorem dX6_mend_38 : decode cX6_mend 38 = .ok (.iconst 1, 1) := by decide +kernel
theorem dX6_mend_39 : decode cX6_mend 39 = .ok (.iadd, 1) := by decide +kernel
theorem dX6_mend_40 : decode cX6_mend 40 = .ok (.putfield 181, 3) := by decide +kernel
theorem dX6_mend_43 : decode cX6_mend 43 = .ok (.aload_n 0, 1) := by decide +kernel
theorem dX6_mend_44 : decode cX6_mend 44 = .ok (.invokevirtual 184, 3) := by decide +kernel
theorem dX6_mend_47 : decode cX6_mend 47 = .ok (.istore_n 2, 1) := by decide +kernel
theorem dX6_mend_48 : decode cX6_mend 48 = .ok (.iload_n 1, 1) := by decide +kernel
theorem dX6_mend_49 : decode cX6_mend 49 = .ok (.iconst 1, 1) := by decide +kernel
theorem dX6_mend_50 : decode cX6_mend 50 = .ok (.if_icmp .eq 8, 3) := by decide +kernel
theorem dX6_mend_53 : decode cX6_mend 53 = .ok (.iload_n 2, 1) := by decide +kernel
theorem dX6_mend_54 : decode cX6_mend 54 = .ok (.iconst (-1), 1) := by decide +kernel
theorem dX6_mend_55 : decode cX6_mend 55 = .ok (.if_icmp .ne 7, 3) := by decide +kernel
theorem dX6_mend_58 : decode cX6_mend 58 = .ok (.iload_n 2, 1) := by decide +kernel
theorem dX6_mend_59 : decode cX6_mend 59 = .ok (.goto 7, 3) := by decide +kernel
theorem dX6_mend_62 : decode cX6_mend 62 = .ok (.iload_n 2, 1) := by decide +kernel
theorem dX6_mend_63 : decode cX6_mend 63 = .ok (.invokestatic 188, 3) := by decide +kernel
theorem dX6_mend_66 : decode cX6_mend 66 = .ok (.ireturn, 1) := by decide +kernel
theorem dX6_see_0 : decode cX6_see 0 = .ok (.aload_n 0, 1) := by decide +kernel
theorem dX6_see_1 : decode cX6_see 1 = .ok (.getfield 19, 3) := by decide +kernel
theorem dX6_see_4 : decode cX6_see 4 = .ok (.iload_n 1, 1) := by decide +kernel
theorem dX6_see_5 : decode cX6_see 5 = .ok (.invokevirtual 103, 3) := by decide +kernel
theorem dX6_see_8 : decode cX6_see 8 = .ok (.ifCond .ne 6, 3) := by decide +kernel
theorem dX6_see_11 : decode cX6_see 11 = .ok (.bipush (-101), 2) := by decide +kernel
theorem dX6_see_13 : decode cX6_see 13 = .ok (.ireturn, 1) := by decide +kernel
theorem dX6_see_14 : decode cX6_see 14 = .ok (.iload_n 2, 1) := by decide +kernel
theorem dX6_see_15 : decode cX6_see 15 = .ok (.iconst 1, 1) := by decide +kernel
theorem dX6_see_16 : decode cX6_see 16 = .ok (.if_icmp .lt 17, 3) := by decide +kernel
theorem dX6_see_19 : decode cX6_see 19 = .ok (.iload_n 2, 1) := by decide +kernel
theorem dX6_see_20 : decode cX6_see 20 = .ok (.iconst 3, 1) := by decide +kernel
theorem dX6_see_21 : decode cX6_see 21 = .ok (.if_icmp .gt 12, 3) := by decide +kernel
theorem dX6_see_24 : decode cX6_see 24 = .ok (.iload_n 3, 1) := by decide +kernel
theorem dX6_see_25 : decode cX6_see 25 = .ok (.ifCond .lt 8, 3) := by decide +kernel
theorem dX6_see_28 : decode cX6_see 28 = .ok (.iload_n 3, 1) := by decide +kernel
theorem dX6_see_29 : decode cX6_see 29 = .ok (.iconst 2, 1) := by decide +kernel
theorem dX6_see_30 : decode cX6_see 30 = .ok (.if_icmp .le 6, 3) := by decide +kernel
theorem dX6_see_33 : decode cX6_see 33 = .ok (.bipush (-102), 2) := by decide +kernel
theorem dX6_see_35 : decode cX6_see 35 = .ok (.ireturn, 1) := by decide +kernel
theorem dX6_see_36 : decode cX6_see 36 = .ok (.aload_n 0, 1) := by decide +kernel
theorem dX6_see_37 : decode cX6_see 37 = .ok (.getfield 51, 3) := by decide +kernel
theorem dX6_see_40 : decode cX6_see 40 = .ok (.iload_n 1, 1) := by decide +kernel
theorem dX6_see_41 : decode cX6_see 41 = .ok (.iload_n 2, 1) := by decide +kernel
theorem dX6_see_42 : decode cX6_see 42 = .ok (.iload_n 3, 1) := by decide +kernel
theorem dX6_see_43 : decode cX6_see 43 = .ok (.invokevirtual 193, 3) := by decide +kernel
theorem dX6_see_46 : decode cX6_see 46 = .ok (.ifCond .eq 13, 3) := by decide +kernel
theorem dX6_see_49 : decode cX6_see 49 = .ok (.aload_n 0, 1) := by decide +kernel
theorem dX6_see_50 : decode cX6_see 50 = .ok (.getfield 51, 3) := by decide +kernel
theorem dX6_see_53 : decode cX6_see 53 = .ok (.getfield 96, 3) := by decide +kernel
theorem dX6_see_56 : decode cX6_see 56 = .ok (.goto 5, 3) := by decide +kernel
theorem dX6_see_59 : decode cX6_see 59 = .ok (.bipush (-104), 2) := by decide +kernel
theorem dX6_see_61 : decode cX6_see 61 = .ok (.ireturn, 1) := by decide +kernel
theorem dX6_forget_0 : decode cX6_forget 0 = .ok (.aload_n 0, 1) := by decide +kernel
theorem dX6_forget_1 : decode cX6_forget 1 = .ok (.getfield 51, 3) := by decide +kernel
theorem dX6_forget_4 : decode cX6_forget 4 = .ok (.getfield 96, 3) := by decide +kernel
theorem dX6_forget_7 : decode cX6_forget 7 = .ok (.istore_n 1, 1) := by decide +kernel
theorem dX6_forget_8 : decode cX6_forget 8 = .ok (.aload_n 0, 1) := by decide +kernel
theorem dX6_forget_9 : decode cX6_forget 9 = .ok (.getfield 51, 3) := by decide +kernel
theorem dX6_forget_12 : decode cX6_forget 12 = .ok (.iconst 0, 1) := by decide +kernel
theorem dX6_forget_13 : decode cX6_forget 13 = .ok (.putfield 96, 3) := by decide +kernel
theorem dX6_forget_16 : decode cX6_forget 16 = .ok (.iload_n 1, 1) := by decide +kernel
theorem dX6_forget_17 : decode cX6_forget 17 = .ok (.ireturn, 1) := by decide +kernel
theorem dX6_drawn_0 : decode cX6_drawn 0 = .ok (.iload_n 1, 1) := by decide +kernel
theorem dX6_drawn_1 : decode cX6_drawn 1 = .ok (.iconst 1, 1) := by decide +kernel
theorem dX6_drawn_2 : decode cX6_drawn 2 = .ok (.if_icmp .lt 22, 3) := by decide +kernel
theorem dX6_drawn_5 : decode cX6_drawn 5 = .ok (.iload_n 1, 1) := by decide +kernel
theorem dX6_drawn_6 : decode cX6_drawn 6 = .ok (.bipush 8, 2) := by decide +kernel
theorem dX6_drawn_8 : decode cX6_drawn 8 = .ok (.if_icmp .gt 16, 3) := by decide +kernel
theorem dX6_drawn_11 : decode cX6_drawn 11 = .ok (.iload_n 2, 1) := by decide +kernel
theorem dX6_drawn_12 : decode cX6_drawn 12 = .ok (.ifCond .lt 12, 3) := by decide +kernel
theorem dX6_drawn_15 : decode cX6_drawn 15 = .ok (.iload_n 3, 1) := by decide +kernel
theorem dX6_drawn_16 : decode cX6_drawn 16 = .ok (.ifCond .lt 8, 3) := by decide +kernel
theorem dX6_drawn_19 : decode cX6_drawn 19 = .ok (.iload_n 3, 1) := by decide +kernel
theorem dX6_drawn_20 : decode cX6_drawn 20 = .ok (.iconst 2, 1) := by decide +kernel
theorem dX6_drawn_21 : decode cX6_drawn 21 = .ok (.if_icmp .le 6, 3) := by decide +kernel
theorem dX6_drawn_24 : decode cX6_drawn 24 = .ok (.bipush (-102), 2) := by decide +kernel
theorem dX6_drawn_26 : decode cX6_drawn 26 = .ok (.ireturn, 1) := by decide +kernel
theorem dX6_drawn_27 : decode cX6_drawn 27 = .ok (.iconst 0, 1) := by decide +kernel
theorem dX6_drawn_28 : decode cX6_drawn 28 = .ok (.istore 4, 2) := by decide +kernel
theorem dX6_drawn_30 : decode cX6_drawn 30 = .ok (.iconst 0, 1) := by decide +kernel
theorem dX6_drawn_31 : decode cX6_drawn 31 = .ok (.istore 5, 2) := by decide +kernel
theorem dX6_drawn_33 : decode cX6_drawn 33 = .ok (.iload_n 2, 1) := by decide +kernel
theorem dX6_drawn_34 : decode cX6_drawn 34 = .ok (.istore 6, 2) := by decide +kernel
theorem dX6_drawn_36 : decode cX6_drawn 36 = .ok (.iconst 0, 1) := by decide +kernel
theorem dX6_drawn_37 : decode cX6_drawn 37 = .ok (.istore 7, 2) := by decide +kernel
theorem dX6_drawn_39 : decode cX6_drawn 39 = .ok (.iload 7, 2) := by decide +kernel
theorem dX6_drawn_41 : decode cX6_drawn 41 = .ok (.iload_n 1, 1) := by decide +kernel
theorem dX6_drawn_42 : decode cX6_drawn 42 = .ok (.if_icmp .ge 60, 3) := by decide +kernel
theorem dX6_drawn_45 : decode cX6_drawn 45 = .ok (.aload_n 0, 1) := by decide +kernel
theorem dX6_drawn_46 : decode cX6_drawn 46 = .ok (.iload 6, 2) := by decide +kernel
theorem dX6_drawn_48 : decode cX6_drawn 48 = .ok (.invokevirtual 196, 3) := by decide +kernel
theorem dX6_drawn_51 : decode cX6_drawn 51 = .ok (.istore 6, 2) := by decide +kernel
theorem dX6_drawn_53 : decode cX6_drawn 53 = .ok (.aload_n 0, 1) := by decide +kernel
theorem dX6_drawn_54 : decode cX6_drawn 54 = .ok (.getfield 64, 3) := by decide +kernel
theorem dX6_drawn_57 : decode cX6_drawn 57 = .ok (.iconst 0, 1) := by decide +kernel
theorem dX6_drawn_58 : decode cX6_drawn 58 = .ok (.invokevirtual 199, 3) := by decide +kernel
theorem dX6_drawn_61 : decode cX6_drawn 61 = .ok (.iload 4, 2) := by decide +kernel
theorem dX6_drawn_63 : decode cX6_drawn 63 = .ok (.aload_n 0, 1) := by decide +kernel
theorem dX6_drawn_64 : decode cX6_drawn 64 = .ok (.getfield 64, 3) := by decide +kernel
theorem dX6_drawn_67 : decode cX6_drawn 67 = .ok (.invokevirtual 168, 3) := by decide +kernel
theorem dX6_drawn_70 : decode cX6_drawn 70 = .ok (.ifCond .eq 7, 3) := by decide +kernel
theorem dX6_drawn_73 : decode cX6_drawn 73 = .ok (.iconst 1, 1) := by decide +kernel
theorem dX6_drawn_74 : decode cX6_drawn 74 = .ok (.goto 4, 3) := by decide +kernel
theorem dX6_drawn_77 : decode cX6_drawn 77 = .ok (.iconst 0, 1) := by decide +kernel
theorem dX6_drawn_78 : decode cX6_drawn 78 = .ok (.iadd, 1) := by decide +kernel
theorem dX6_drawn_79 : decode cX6_drawn 79 = .ok (.istore 4, 2) := by decide +kernel
theorem dX6_drawn_81 : decode cX6_drawn 81 = .ok (.iload 5, 2) := by decide +kernel
theorem dX6_drawn_83 : decode cX6_drawn 83 = .ok (.aload_n 0, 1) := by decide +kernel
theorem dX6_drawn_84 : decode cX6_drawn 84 = .ok (.getfield 64, 3) := by decide +kernel
theorem dX6_drawn_87 : decode cX6_drawn 87 = .ok (.getfield 203, 3) := by decide +kernel
theorem dX6_drawn_90 : decode cX6_drawn 90 = .ok (.invokestatic 188, 3) := by decide +kernel
theorem dX6_drawn_93 : decode cX6_drawn 93 = .ok (.iadd, 1) := by decide +kernel
theorem dX6_drawn_94 : decode cX6_drawn 94 = .ok (.istore 5, 2) := by decide +kernel
theorem dX6_drawn_96 : decode cX6_drawn 96 = .ok (.iinc 7 1, 3) := by decide +kernel
theorem dX6_drawn_99 : decode cX6_drawn 99 = .ok (.goto (-60), 3) := by decide +kernel
theorem dX6_drawn_102 : decode cX6_drawn 102 = .ok (.iload_n 3, 1) := by decide +kernel
theorem dX6_drawn_103 : decode cX6_drawn 103 = .ok (.lookupswitch 31 #[(0, 25), (1, 28)], 25) := by decide +kernel
theorem dX6_drawn_128 : decode cX6_drawn 128 = .ok (.iload 4, 2) := by decide +kernel
theorem dX6_drawn_130 : decode cX6_drawn 130 = .ok (.ireturn, 1) := by decide +kernel
theorem dX6_drawn_131 : decode cX6_drawn 131 = .ok (.iload 5, 2) := by decide +kernel
theorem dX6_drawn_133 : decode cX6_drawn 133 = .ok (.ireturn, 1) := by decide +kernel
theorem dX6_drawn_134 : decode cX6_drawn 134 = .ok (.iload 6, 2) := by decide +kernel
theorem dX6_drawn_136 : decode cX6_drawn 136 = .ok (.ireturn, 1) := by decide +kernel
theorem dX6_image_0 : decode cX6_image 0 = .ok (.aload_n 0, 1) := by decide +kernel
theorem dX6_image_1 : decode cX6_image 1 = .ok (.getfield 19, 3) := by decide +kernel
theorem dX6_image_4 : decode cX6_image 4 = .ok (.getfield 86, 3) := by decide +kernel
theorem dX6_image_7 : decode cX6_image 7 = .ok (.ifCond .ne 6, 3) := by decide +kernel
theorem dX6_image_10 : decode cX6_image 10 = .ok (.bipush (-103), 2) := by decide +kernel
theorem dX6_image_12 : decode cX6_image 12 = .ok (.ireturn, 1) := by decide +kernel
theorem dX6_image_13 : decode cX6_image 13 = .ok (.aload_n 0, 1) := by decide +kernel
theorem dX6_image_14 : decode cX6_image 14 = .ok (.iconst 1, 1) := by decide +kernel
theorem dX6_image_15 : decode cX6_image 15 = .ok (.putfield 92, 3) := by decide +kernel
theorem dX6_image_18 : decode cX6_image 18 = .ok (.aload_n 0, 1) := by decide +kernel
theorem dX6_image_19 : decode cX6_image 19 = .ok (.getfield 55, 3) := by decide +kernel
theorem dX6_image_22 : decode cX6_image 22 = .ok (.aload_n 0, 1) := by decide +kernel
theorem dX6_image_23 : decode cX6_image 23 = .ok (.getfield 19, 3) := by decide +kernel
theorem dX6_image_26 : decode cX6_image 26 = .ok (.invokevirtual 97, 3) := by decide +kernel
theorem dX6_image_29 : decode cX6_image 29 = .ok (.aload_n 0, 1) := by decide +kernel
theorem dX6_image_30 : decode cX6_image 30 = .ok (.getfield 58, 3) := by decide +kernel
theorem dX6_image_33 : decode cX6_image 33 = .ok (.aload_n 0, 1) := by decide +kernel
theorem dX6_image_34 : decode cX6_image 34 = .ok (.getfield 51, 3) := by decide +kernel
theorem dX6_image_37 : decode cX6_image 37 = .ok (.invokevirtual 206, 3) := by decide +kernel
theorem dX6_image_40 : decode cX6_image 40 = .ok (.aload_n 0, 1) := by decide +kernel
theorem dX6_image_41 : decode cX6_image 41 = .ok (.getfield 19, 3) := by decide +kernel
theorem dX6_image_44 : decode cX6_image 44 = .ok (.getfield 86, 3) := by decide +kernel
theorem dX6_image_47 : decode cX6_image 47 = .ok (.ireturn, 1) := by decide +kernel
theorem dX6_restore_0 : decode cX6_restore 0 = .ok (.aload_n 0, 1) := by decide +kernel
theorem dX6_restore_1 : decode cX6_restore 1 = .ok (.getfield 92, 3) := by decide +kernel
theorem dX6_restore_4 : decode cX6_restore 4 = .ok (.ifCond .ne 6, 3) := by decide +kernel
theorem dX6_restore_7 : decode cX6_restore 7 = .ok (.bipush (-103), 2) := by decide +kernel
theorem dX6_restore_9 : decode cX6_restore 9 = .ok (.ireturn, 1) := by decide +kernel
theorem dX6_restore_10 : decode cX6_restore 10 = .ok (.aload_n 0, 1) := by decide +kernel
theorem dX6_restore_11 : decode cX6_restore 11 = .ok (.getfield 19, 3) := by decide +kernel
theorem dX6_restore_14 : decode cX6_restore 14 = .ok (.aload_n 0, 1) := by decide +kernel
theorem dX6_restore_15 : decode cX6_restore 15 = .ok (.getfield 55, 3) := by decide +kernel
theorem dX6_restore_18 : decode cX6_restore 18 = .ok (.invokevirtual 97, 3) := by decide +kernel
theorem dX6_restore_21 : decode cX6_restore 21 = .ok (.aload_n 0, 1) := by decide +kernel
theorem dX6_restore_22 : decode cX6_restore 22 = .ok (.getfield 51, 3) := by decide +kernel
theorem dX6_restore_25 : decode cX6_restore 25 = .ok (.aload_n 0, 1) := by decide +kernel
theorem dX6_restore_26 : decode cX6_restore 26 = .ok (.getfield 58, 3) := by decide +kernel
theorem dX6_restore_29 : decode cX6_restore 29 = .ok (.invokevirtual 206, 3) := by decide +kernel
theorem dX6_restore_32 : decode cX6_restore 32 = .ok (.aload_n 0, 1) := by decide +kernel
theorem dX6_restore_33 : decode cX6_restore 33 = .ok (.invokevirtual 100, 3) := by decide +kernel
theorem dX6_restore_36 : decode cX6_restore 36 = .ok (.aload_n 0, 1) := by decide +kernel
theorem dX6_restore_37 : decode cX6_restore 37 = .ok (.getfield 19, 3) := by decide +kernel
theorem dX6_restore_40 : decode cX6_restore 40 = .ok (.getfield 86, 3) := by decide +kernel
theorem dX6_restore_43 : decode cX6_restore 43 = .ok (.ireturn, 1) := by decide +kernel
theorem dX6_count_0 : decode cX6_count 0 = .ok (.iload_n 1, 1) := by decide +kernel
theorem dX6_count_1 : decode cX6_count 1 = .ok (.tableswitch 159 0 11 #[63, 71, 79, 87, 95, 103, 114, 125, 133, 141, 149, 154], 63) := by decide +kernel
theorem dX6_count_64 : decode cX6_count 64 = .ok (.aload_n 0, 1) := by decide +kernel
theorem dX6_count_65 : decode cX6_count 65 = .ok (.getfield 19, 3) := by decide +kernel
theorem dX6_count_68 : decode cX6_count 68 = .ok (.getfield 86, 3) := by decide +kernel
theorem dX6_count_71 : decode cX6_count 71 = .ok (.ireturn, 1) := by decide +kernel
theorem dX6_count_72 : decode cX6_count 72 = .ok (.aload_n 0, 1) := by decide +kernel
theorem dX6_count_73 : decode cX6_count 73 = .ok (.getfield 28, 3) := by decide +kernel
theorem dX6_count_76 : decode cX6_count 76 = .ok (.getfield 209, 3) := by decide +kernel
theorem dX6_count_79 : decode cX6_count 79 = .ok (.ireturn, 1) := by decide +kernel
theorem dX6_count_80 : decode cX6_count 80 = .ok (.aload_n 0, 1) := by decide +kernel
theorem dX6_count_81 : decode cX6_count 81 = .ok (.getfield 28, 3) := by decide +kernel
theorem dX6_count_84 : decode cX6_count 84 = .ok (.getfield 210, 3) := by decide +kernel
theorem dX6_count_87 : decode cX6_count 87 = .ok (.ireturn, 1) := by decide +kernel
theorem dX6_count_88 : decode cX6_count 88 = .ok (.aload_n 0, 1) := by decide +kernel
theorem dX6_count_89 : decode cX6_count 89 = .ok (.getfield 28, 3) := by decide +kernel
theorem dX6_count_92 : decode cX6_count 92 = .ok (.getfield 213, 3) := by decide +kernel
theorem dX6_count_95 : decode cX6_count 95 = .ok (.ireturn, 1) := by decide +kernel
theorem dX6_count_96 : decode cX6_count 96 = .ok (.aload_n 0, 1) := by decide +kernel
theorem dX6_count_97 : decode cX6_count 97 = .ok (.getfield 28, 3) := by decide +kernel
theorem dX6_count_100 : decode cX6_count 100 = .ok (.getfield 216, 3) := by decide +kernel
theorem dX6_count_103 : decode cX6_count 103 = .ok (.ireturn, 1) := by decide +kernel
theorem dX6_count_104 : decode cX6_count 104 = .ok (.aload_n 0, 1) := by decide +kernel
theorem dX6_count_105 : decode cX6_count 105 = .ok (.getfield 28, 3) := by decide +kernel
theorem dX6_count_108 : decode cX6_count 108 = .ok (.getfield 203, 3) := by decide +kernel
theorem dX6_count_111 : decode cX6_count 111 = .ok (.invokestatic 188, 3) := by decide +kernel
theorem dX6_count_114 : decode cX6_count 114 = .ok (.ireturn, 1) := by decide +kernel
theorem dX6_count_115 : decode cX6_count 115 = .ok (.aload_n 0, 1) := by decide +kernel
theorem dX6_count_116 : decode cX6_count 116 = .ok (.getfield 28, 3) := by decide +kernel
theorem dX6_count_119 : decode cX6_count 119 = .ok (.getfield 219, 3) := by decide +kernel
theorem dX6_count_122 : decode cX6_count 122 = .ok (.invokestatic 188, 3) := by decide +kernel
theorem dX6_count_125 : decode cX6_count 125 = .ok (.ireturn, 1) := by decide +kernel
theorem dX6_count_126 : decode cX6_count 126 = .ok (.aload_n 0, 1) := by decide +kernel
theorem dX6_count_127 : decode cX6_count 127 = .ok (.getfield 44, 3) := by decide +kernel
theorem dX6_count_130 : decode cX6_count 130 = .ok (.getfield 95, 3) := by decide +kernel
theorem dX6_count_133 : decode cX6_count 133 = .ok (.ireturn, 1) := by decide +kernel
theorem dX6_count_134 : decode cX6_count 134 = .ok (.aload_n 0, 1) := by decide +kernel
theorem dX6_count_135 : decode cX6_count 135 = .ok (.getfield 51, 3) := by decide +kernel
theorem dX6_count_138 : decode cX6_count 138 = .ok (.getfield 96, 3) := by decide +kernel
theorem dX6_count_141 : decode cX6_count 141 = .ok (.ireturn, 1) := by decide +kernel
theorem dX6_count_142 : decode cX6_count 142 = .ok (.aload_n 0, 1) := by decide +kernel
theorem dX6_count_143 : decode cX6_count 143 = .ok (.getfield 12, 3) := by decide +kernel
theorem dX6_count_146 : decode cX6_count 146 = .ok (.getfield 71, 3) := by decide +kernel
theorem dX6_count_149 : decode cX6_count 149 = .ok (.ireturn, 1) := by decide +kernel
theorem dX6_count_150 : decode cX6_count 150 = .ok (.aload_n 0, 1) := by decide +kernel
theorem dX6_count_151 : decode cX6_count 151 = .ok (.getfield 89, 3) := by decide +kernel
theorem dX6_count_154 : decode cX6_count 154 = .ok (.ireturn, 1) := by decide +kernel
theorem dX6_count_155 : decode cX6_count 155 = .ok (.aload_n 0, 1) := by decide +kernel
theorem dX6_count_156 : decode cX6_count 156 = .ok (.getfield 181, 3) := by decide +kernel
theorem dX6_count_159 : decode cX6_count 159 = .ok (.ireturn, 1) := by decide +kernel
theorem dX6_count_160 : decode cX6_count 160 = .ok (.bipush (-102), 2) := by decide +kernel
theorem dX6_count_162 : decode cX6_count 162 = .ok (.ireturn, 1) := by decide +kernel
theorem dX6_digest_0 : decode cX6_digest 0 = .ok (.ldc2_w 222, 3) := by decide +kernel
theorem dX6_digest_3 : decode cX6_digest 3 = .ok (.lstore_n 1, 1) := by decide +kernel
theorem dX6_digest_4 : decode cX6_digest 4 = .ok (.iconst 0, 1) := by decide +kernel
theorem dX6_digest_5 : decode cX6_digest 5 = .ok (.istore_n 3, 1) := by decide +kernel
theorem dX6_digest_6 : decode cX6_digest 6 = .ok (.iload_n 3, 1) := by decide +kernel
theorem dX6_digest_7 : decode cX6_digest 7 = .ok (.aload_n 0, 1) := by decide +kernel
theorem dX6_digest_8 : decode cX6_digest 8 = .ok (.getfield 19, 3) := by decide +kernel
theorem dX6_digest_11 : decode cX6_digest 11 = .ok (.getfield 86, 3) := by decide +kernel
theorem dX6_digest_14 : decode cX6_digest 14 = .ok (.if_icmp .ge 68, 3) := by decide +kernel
theorem dX6_digest_17 : decode cX6_digest 17 = .ok (.iconst 0, 1) := by decide +kernel
theorem dX6_digest_18 : decode cX6_digest 18 = .ok (.istore 4, 2) := by decide +kernel
theorem dX6_digest_20 : decode cX6_digest 20 = .ok (.iload 4, 2) := by decide +kernel
theorem dX6_digest_22 : decode cX6_digest 22 = .ok (.bipush 10, 2) := by decide +kernel
theorem dX6_digest_24 : decode cX6_digest 24 = .ok (.if_icmp .ge 24, 3) := by decide +kernel
theorem dX6_digest_27 : decode cX6_digest 27 = .ok (.ldc2_w 224, 3) := by decide +kernel
theorem dX6_digest_30 : decode cX6_digest 30 = .ok (.lload_n 1, 1) := by decide +kernel
theorem dX6_digest_31 : decode cX6_digest 31 = .ok (.lmul, 1) := by decide +kernel
theorem dX6_digest_32 : decode cX6_digest 32 = .ok (.aload_n 0, 1) := by decide +kernel
theorem dX6_digest_33 : decode cX6_digest 33 = .ok (.iload_n 3, 1) := by decide +kernel
theorem dX6_digest_34 : decode cX6_digest 34 = .ok (.iload 4, 2) := by decide +kernel
theorem dX6_digest_36 : decode cX6_digest 36 = .ok (.invokevirtual 226, 3) := by decide +kernel
theorem dX6_digest_39 : decode cX6_digest 39 = .ok (.i2l, 1) := by decide +kernel
theorem dX6_digest_40 : decode cX6_digest 40 = .ok (.ladd, 1) := by decide +kernel
theorem dX6_digest_41 : decode cX6_digest 41 = .ok (.lstore_n 1, 1) := by decide +kernel
theorem dX6_digest_42 : decode cX6_digest 42 = .ok (.iinc 4 1, 3) := by decide +kernel
theorem dX6_digest_45 : decode cX6_digest 45 = .ok (.goto (-25), 3) := by decide +kernel
theorem dX6_digest_48 : decode cX6_digest 48 = .ok (.ldc2_w 224, 3) := by decide +kernel
theorem dX6_digest_51 : decode cX6_digest 51 = .ok (.lload_n 1, 1) := by decide +kernel
theorem dX6_digest_52 : decode cX6_digest 52 = .ok (.lmul, 1) := by decide +kernel
theorem dX6_digest_53 : decode cX6_digest 53 = .ok (.aload_n 0, 1) := by decide +kernel
theorem dX6_digest_54 : decode cX6_digest 54 = .ok (.iload_n 3, 1) := by decide +kernel
theorem dX6_digest_55 : decode cX6_digest 55 = .ok (.iconst 0, 1) := by decide +kernel
theorem dX6_digest_56 : decode cX6_digest 56 = .ok (.invokevirtual 229, 3) := by decide +kernel
theorem dX6_digest_59 : decode cX6_digest 59 = .ok (.i2l, 1) := by decide +kernel
theorem dX6_digest_60 : decode cX6_digest 60 = .ok (.ladd, 1) := by decide +kernel
theorem dX6_digest_61 : decode cX6_digest 61 = .ok (.lstore_n 1, 1) := by decide +kernel
theorem dX6_digest_62 : decode cX6_digest 62 = .ok (.ldc2_w 224, 3) := by decide +kernel
theorem dX6_digest_65 : decode cX6_digest 65 = .ok (.lload_n 1, 1) := by decide +kernel
theorem dX6_digest_66 : decode cX6_digest 66 = .ok (.lmul, 1) := by decide +kernel
theorem dX6_digest_67 : decode cX6_digest 67 = .ok (.aload_n 0, 1) := by decide +kernel
theorem dX6_digest_68 : decode cX6_digest 68 = .ok (.iload_n 3, 1) := by decide +kernel
theorem dX6_digest_69 : decode cX6_digest 69 = .ok (.iconst 1, 1) := by decide +kernel
theorem dX6_digest_70 : decode cX6_digest 70 = .ok (.invokevirtual 229, 3) := by decide +kernel
theorem dX6_digest_73 : decode cX6_digest 73 = .ok (.i2l, 1) := by decide +kernel
theorem dX6_digest_74 : decode cX6_digest 74 = .ok (.ladd, 1) := by decide +kernel
theorem dX6_digest_75 : decode cX6_digest 75 = .ok (.lstore_n 1, 1) := by decide +kernel
theorem dX6_digest_76 : decode cX6_digest 76 = .ok (.iinc 3 1, 3) := by decide +kernel
theorem dX6_digest_79 : decode cX6_digest 79 = .ok (.goto (-73), 3) := by decide +kernel
theorem dX6_digest_82 : decode cX6_digest 82 = .ok (.aload_n 0, 1) := by decide +kernel
theorem dX6_digest_83 : decode cX6_digest 83 = .ok (.getfield 19, 3) := by decide +kernel
theorem dX6_digest_86 : decode cX6_digest 86 = .ok (.getfield 86, 3) := by decide +kernel
theorem dX6_digest_89 : decode cX6_digest 89 = .ok (.ifCond .le 29, 3) := by decide +kernel
theorem dX6_digest_92 : decode cX6_digest 92 = .ok (.iconst 0, 1) := by decide +kernel
theorem dX6_digest_93 : decode cX6_digest 93 = .ok (.istore_n 3, 1) := by decide +kernel
theorem dX6_digest_94 : decode cX6_digest 94 = .ok (.iload_n 3, 1) := by decide +kernel
theorem dX6_digest_95 : decode cX6_digest 95 = .ok (.iconst 4, 1) := by decide +kernel
theorem dX6_digest_96 : decode cX6_digest 96 = .ok (.if_icmp .ge 22, 3) := by decide +kernel
theorem dX6_digest_99 : decode cX6_digest 99 = .ok (.ldc2_w 224, 3) := by decide +kernel
theorem dX6_digest_102 : decode cX6_digest 102 = .ok (.lload_n 1, 1) := by decide +kernel
theorem dX6_digest_103 : decode cX6_digest 103 = .ok (.lmul, 1) := by decide +kernel
theorem dX6_digest_104 : decode cX6_digest 104 = .ok (.aload_n 0, 1) := by decide +kernel
theorem dX6_digest_105 : decode cX6_digest 105 = .ok (.iload_n 3, 1) := by decide +kernel
theorem dX6_digest_106 : decode cX6_digest 106 = .ok (.invokevirtual 232, 3) := by decide +kernel
theorem dX6_digest_109 : decode cX6_digest 109 = .ok (.i2l, 1) := by decide +kernel
theorem dX6_digest_110 : decode cX6_digest 110 = .ok (.ladd, 1) := by decide +kernel
theorem dX6_digest_111 : decode cX6_digest 111 = .ok (.lstore_n 1, 1) := by decide +kernel
theorem dX6_digest_112 : decode cX6_digest 112 = .ok (.iinc 3 1, 3) := by decide +kernel
theorem dX6_digest_115 : decode cX6_digest 115 = .ok (.goto (-21), 3) := by decide +kernel
theorem dX6_digest_118 : decode cX6_digest 118 = .ok (.lload_n 1, 1) := by decide +kernel
theorem dX6_digest_119 : decode cX6_digest 119 = .ok (.aload_n 0, 1) := by decide +kernel
theorem dX6_digest_120 : decode cX6_digest 120 = .ok (.getfield 37, 3) := by decide +kernel
theorem dX6_digest_123 : decode cX6_digest 123 = .ok (.getfield 167, 3) := by decide +kernel
theorem dX6_digest_126 : decode cX6_digest 126 = .ok (.aload_n 0, 1) := by decide +kernel
theorem dX6_digest_127 : decode cX6_digest 127 = .ok (.getfield 37, 3) := by decide +kernel
theorem dX6_digest_130 : decode cX6_digest 130 = .ok (.getfield 166, 3) := by decide +kernel
theorem dX6_digest_133 : decode cX6_digest 133 = .ok (.invokestatic 235, 3) := by decide +kernel
theorem dX6_digest_136 : decode cX6_digest 136 = .ok (.lstore_n 1, 1) := by decide +kernel
theorem dX6_digest_137 : decode cX6_digest 137 = .ok (.lload_n 1, 1) := by decide +kernel
theorem dX6_digest_138 : decode cX6_digest 138 = .ok (.aload_n 0, 1) := by decide +kernel
theorem dX6_digest_139 : decode cX6_digest 139 = .ok (.getfield 44, 3) := by decide +kernel
theorem dX6_digest_142 : decode cX6_digest 142 = .ok (.getfield 163, 3) := by decide +kernel
theorem dX6_digest_145 : decode cX6_digest 145 = .ok (.aload_n 0, 1) := by decide +kernel
theorem dX6_digest_146 : decode cX6_digest 146 = .ok (.getfield 44, 3) := by decide +kernel
theorem dX6_digest_149 : decode cX6_digest 149 = .ok (.getfield 95, 3) := by decide +kernel
theorem dX6_digest_152 : decode cX6_digest 152 = .ok (.invokestatic 235, 3) := by decide +kernel
theorem dX6_digest_155 : decode cX6_digest 155 = .ok (.lstore_n 1, 1) := by decide +kernel
theorem dX6_digest_156 : decode cX6_digest 156 = .ok (.lload_n 1, 1) := by decide +kernel
theorem dX6_digest_157 : decode cX6_digest 157 = .ok (.aload_n 0, 1) := by decide +kernel
theorem dX6_digest_158 : decode cX6_digest 158 = .ok (.getfield 12, 3) := by decide +kernel
theorem dX6_digest_161 : decode cX6_digest 161 = .ok (.getfield 239, 3) := by decide +kernel
theorem dX6_digest_164 : decode cX6_digest 164 = .ok (.aload_n 0, 1) := by decide +kernel
theorem dX6_digest_165 : decode cX6_digest 165 = .ok (.getfield 12, 3) := by decide +kernel
theorem dX6_digest_168 : decode cX6_digest 168 = .ok (.getfield 71, 3) := by decide +kernel
theorem dX6_digest_171 : decode cX6_digest 171 = .ok (.invokestatic 235, 3) := by decide +kernel
theorem dX6_digest_174 : decode cX6_digest 174 = .ok (.lstore_n 1, 1) := by decide +kernel
theorem dX6_digest_175 : decode cX6_digest 175 = .ok (.iconst 0, 1) := by decide +kernel
theorem dX6_digest_176 : decode cX6_digest 176 = .ok (.istore_n 3, 1) := by decide +kernel
theorem dX6_digest_177 : decode cX6_digest 177 = .ok (.iload_n 3, 1) := by decide +kernel
theorem dX6_digest_178 : decode cX6_digest 178 = .ok (.bipush 12, 2) := by decide +kernel
theorem dX6_digest_180 : decode cX6_digest 180 = .ok (.if_icmp .ge 22, 3) := by decide +kernel
theorem dX6_digest_183 : decode cX6_digest 183 = .ok (.ldc2_w 224, 3) := by decide +kernel
theorem dX6_digest_186 : decode cX6_digest 186 = .ok (.lload_n 1, 1) := by decide +kernel
theorem dX6_digest_187 : decode cX6_digest 187 = .ok (.lmul, 1) := by decide +kernel
theorem dX6_digest_188 : decode cX6_digest 188 = .ok (.aload_n 0, 1) := by decide +kernel
theorem dX6_digest_189 : decode cX6_digest 189 = .ok (.iload_n 3, 1) := by decide +kernel
theorem dX6_digest_190 : decode cX6_digest 190 = .ok (.invokevirtual 242, 3) := by decide +kernel
theorem dX6_digest_193 : decode cX6_digest 193 = .ok (.i2l, 1) := by decide +kernel
theorem dX6_digest_194 : decode cX6_digest 194 = .ok (.ladd, 1) := by decide +kernel
theorem dX6_digest_195 : decode cX6_digest 195 = .ok (.lstore_n 1, 1) := by decide +kernel
theorem dX6_digest_196 : decode cX6_digest 196 = .ok (.iinc 3 1, 3) := by decide +kernel
theorem dX6_digest_199 : decode cX6_digest 199 = .ok (.goto (-22), 3) := by decide +kernel
theorem dX6_digest_202 : decode cX6_digest 202 = .ok (.lload_n 1, 1) := by decide +kernel
theorem dX6_digest_203 : decode cX6_digest 203 = .ok (.lreturn, 1) := by decide +kernel
theorem dX6_joined_0 : decode cX6_joined 0 = .ok (.lload_n 0, 1) := by decide +kernel
theorem dX6_joined_1 : decode cX6_joined 1 = .ok (.lstore 4, 2) := by decide +kernel
theorem dX6_joined_3 : decode cX6_joined 3 = .ok (.iconst 0, 1) := by decide +kernel
theorem dX6_joined_4 : decode cX6_joined 4 = .ok (.istore 6, 2) := by decide +kernel
theorem dX6_joined_6 : decode cX6_joined 6 = .ok (.iload 6, 2) := by decide +kernel
theorem dX6_joined_8 : decode cX6_joined 8 = .ok (.iload_n 3, 1) := by decide +kernel
theorem dX6_joined_9 : decode cX6_joined 9 = .ok (.if_icmp .ge 30, 3) := by decide +kernel
theorem dX6_joined_12 : decode cX6_joined 12 = .ok (.iload 6, 2) := by decide +kernel
theorem dX6_joined_14 : decode cX6_joined 14 = .ok (.aload_n 2, 1) := by decide +kernel
theorem dX6_joined_15 : decode cX6_joined 15 = .ok (.arraylength, 1) := by decide +kernel
theorem dX6_joined_16 : decode cX6_joined 16 = .ok (.if_icmp .ge 23, 3) := by decide +kernel
theorem dX6_joined_19 : decode cX6_joined 19 = .ok (.ldc2_w 224, 3) := by decide +kernel
theorem dX6_joined_22 : decode cX6_joined 22 = .ok (.lload 4, 2) := by decide +kernel
theorem dX6_joined_24 : decode cX6_joined 24 = .ok (.lmul, 1) := by decide +kernel
theorem dX6_joined_25 : decode cX6_joined 25 = .ok (.aload_n 2, 1) := by decide +kernel
theorem dX6_joined_26 : decode cX6_joined 26 = .ok (.iload 6, 2) := by decide +kernel
theorem dX6_joined_28 : decode cX6_joined 28 = .ok (.iaload, 1) := by decide +kernel
theorem dX6_joined_29 : decode cX6_joined 29 = .ok (.i2l, 1) := by decide +kernel
theorem dX6_joined_30 : decode cX6_joined 30 = .ok (.ladd, 1) := by decide +kernel
theorem dX6_joined_31 : decode cX6_joined 31 = .ok (.lstore 4, 2) := by decide +kernel
theorem dX6_joined_33 : decode cX6_joined 33 = .ok (.iinc 6 1, 3) := by decide +kernel
theorem dX6_joined_36 : decode cX6_joined 36 = .ok (.goto (-30), 3) := by decide +kernel
theorem dX6_joined_39 : decode cX6_joined 39 = .ok (.lload 4, 2) := by decide +kernel
theorem dX6_joined_41 : decode cX6_joined 41 = .ok (.lreturn, 1) := by decide +kernel
theorem dX6_lookAnew_0 : decode cX6_lookAnew 0 = .ok (.aload_n 0, 1) := by decide +kernel
theorem dX6_lookAnew_1 : decode cX6_lookAnew 1 = .ok (.getfield 28, 3) := by decide +kernel
theorem dX6_lookAnew_4 : decode cX6_lookAnew 4 = .ok (.iconst 0, 1) := by decide +kernel
theorem dX6_lookAnew_5 : decode cX6_lookAnew 5 = .ok (.invokevirtual 199, 3) := by decide +kernel
theorem dX6_lookAnew_8 : decode cX6_lookAnew 8 = .ok (.aload_n 0, 1) := by decide +kernel
theorem dX6_lookAnew_9 : decode cX6_lookAnew 9 = .ok (.getfield 37, 3) := by decide +kernel
theorem dX6_lookAnew_12 : decode cX6_lookAnew 12 = .ok (.invokevirtual 245, 3) := by decide +kernel
theorem dX6_lookAnew_15 : decode cX6_lookAnew 15 = .ok (.return_, 1) := by decide +kernel
theorem dX6_fewestLeftOut_0 : decode cX6_fewestLeftOut 0 = .ok (.aload_n 0, 1) := by decide +kernel
theorem dX6_fewestLeftOut_1 : decode cX6_fewestLeftOut 1 = .ok (.getfield 61, 3) := by decide +kernel
theorem dX6_fewestLeftOut_4 : decode cX6_fewestLeftOut 4 = .ok (.aload_n 0, 1) := by decide +kernel
theorem dX6_fewestLeftOut_5 : decode cX6_fewestLeftOut 5 = .ok (.getfield 19, 3) := by decide +kernel
theorem dX6_fewestLeftOut_8 : decode cX6_fewestLeftOut 8 = .ok (.invokevirtual 97, 3) := by decide +kernel
theorem dX6_fewestLeftOut_11 : decode cX6_fewestLeftOut 11 = .ok (.iconst (-1), 1) := by decide +kernel
theorem dX6_fewestLeftOut_12 : decode cX6_fewestLeftOut 12 = .ok (.istore_n 1, 1) := by decide +kernel
theorem dX6_fewestLeftOut_13 : decode cX6_fewestLeftOut 13 = .ok (.iconst 0, 1) := by decide +kernel
theorem dX6_fewestLeftOut_14 : decode cX6_fewestLeftOut 14 = .ok (.istore_n 2, 1) := by decide +kernel
theorem dX6_fewestLeftOut_15 : decode cX6_fewestLeftOut 15 = .ok (.iload_n 2, 1) := by decide +kernel
theorem dX6_fewestLeftOut_16 : decode cX6_fewestLeftOut 16 = .ok (.iconst 3, 1) := by decide +kernel
theorem dX6_fewestLeftOut_17 : decode cX6_fewestLeftOut 17 = .ok (.if_icmp .gt 23, 3) := by decide +kernel
theorem dX6_fewestLeftOut_20 : decode cX6_fewestLeftOut 20 = .ok (.iload_n 1, 1) := by decide +kernel
theorem dX6_fewestLeftOut_21 : decode cX6_fewestLeftOut 21 = .ok (.iconst (-1), 1) := by decide +kernel
theorem dX6_fewestLeftOut_22 : decode cX6_fewestLeftOut 22 = .ok (.if_icmp .ne 18, 3) := by decide +kernel
theorem dX6_fewestLeftOut_25 : decode cX6_fewestLeftOut 25 = .ok (.aload_n 0, 1) := by decide +kernel
theorem dX6_fewestLeftOut_26 : decode cX6_fewestLeftOut 26 = .ok (.iload_n 2, 1) := by decide +kernel
theorem dX6_fewestLeftOut_27 : decode cX6_fewestLeftOut 27 = .ok (.bipush 16, 2) := by decide +kernel
theorem dX6_fewestLeftOut_29 : decode cX6_fewestLeftOut 29 = .ok (.iconst 0, 1) := by decide +kernel
theorem dX6_fewestLeftOut_30 : decode cX6_fewestLeftOut 30 = .ok (.invokevirtual 248, 3) := by decide +kernel
theorem dX6_fewestLeftOut_33 : decode cX6_fewestLeftOut 33 = .ok (.istore_n 1, 1) := by decide +kernel
theorem dX6_fewestLeftOut_34 : decode cX6_fewestLeftOut 34 = .ok (.iinc 2 1, 3) := by decide +kernel
theorem dX6_fewestLeftOut_37 : decode cX6_fewestLeftOut 37 = .ok (.goto (-22), 3) := by decide +kernel
theorem dX6_fewestLeftOut_40 : decode cX6_fewestLeftOut 40 = .ok (.iload_n 1, 1) := by decide +kernel
theorem dX6_fewestLeftOut_41 : decode cX6_fewestLeftOut 41 = .ok (.ireturn, 1) := by decide +kernel
theorem dX6_leastLeftOut_0 : decode cX6_leastLeftOut 0 = .ok (.iload_n 1, 1) := by decide +kernel
theorem dX6_leastLeftOut_1 : decode cX6_leastLeftOut 1 = .ok (.ifCond .gt 27, 3) := by decide +kernel
theorem dX6_leastLeftOut_4 : decode cX6_leastLeftOut 4 = .ok (.aload_n 0, 1) := by decide +kernel
theorem dX6_leastLeftOut_5 : decode cX6_leastLeftOut 5 = .ok (.getfield 64, 3) := by decide +kernel
theorem dX6_leastLeftOut_8 : decode cX6_leastLeftOut 8 = .ok (.iload_n 3, 1) := by decide +kernel
theorem dX6_leastLeftOut_9 : decode cX6_leastLeftOut 9 = .ok (.invokevirtual 199, 3) := by decide +kernel
theorem dX6_leastLeftOut_12 : decode cX6_leastLeftOut 12 = .ok (.aload_n 0, 1) := by decide +kernel
theorem dX6_leastLeftOut_13 : decode cX6_leastLeftOut 13 = .ok (.getfield 64, 3) := by decide +kernel
theorem dX6_leastLeftOut_16 : decode cX6_leastLeftOut 16 = .ok (.invokevirtual 168, 3) := by decide +kernel
theorem dX6_leastLeftOut_19 : decode cX6_leastLeftOut 19 = .ok (.ifCond .eq 7, 3) := by decide +kernel
theorem dX6_leastLeftOut_22 : decode cX6_leastLeftOut 22 = .ok (.iload_n 3, 1) := by decide +kernel
theorem dX6_leastLeftOut_23 : decode cX6_leastLeftOut 23 = .ok (.goto 4, 3) := by decide +kernel
theorem dX6_leastLeftOut_26 : decode cX6_leastLeftOut 26 = .ok (.iconst (-1), 1) := by decide +kernel
theorem dX6_leastLeftOut_27 : decode cX6_leastLeftOut 27 = .ok (.ireturn, 1) := by decide +kernel
theorem dX6_leastLeftOut_28 : decode cX6_leastLeftOut 28 = .ok (.iload_n 1, 1) := by decide +kernel
theorem dX6_leastLeftOut_29 : decode cX6_leastLeftOut 29 = .ok (.iconst 1, 1) := by decide +kernel
theorem dX6_leastLeftOut_30 : decode cX6_leastLeftOut 30 = .ok (.isub, 1) := by decide +kernel
theorem dX6_leastLeftOut_31 : decode cX6_leastLeftOut 31 = .ok (.istore 4, 2) := by decide +kernel
theorem dX6_leastLeftOut_33 : decode cX6_leastLeftOut 33 = .ok (.iload 4, 2) := by decide +kernel
theorem dX6_leastLeftOut_35 : decode cX6_leastLeftOut 35 = .ok (.iload_n 2, 1) := by decide +kernel
theorem dX6_leastLeftOut_36 : decode cX6_leastLeftOut 36 = .ok (.if_icmp .ge 54, 3) := by decide +kernel
theorem dX6_leastLeftOut_39 : decode cX6_leastLeftOut 39 = .ok (.aload_n 0, 1) := by decide +kernel
theorem dX6_leastLeftOut_40 : decode cX6_leastLeftOut 40 = .ok (.getfield 28, 3) := by decide +kernel
theorem dX6_leastLeftOut_43 : decode cX6_leastLeftOut 43 = .ok (.iload 4, 2) := by decide +kernel
theorem dX6_leastLeftOut_45 : decode cX6_leastLeftOut 45 = .ok (.iconst 2, 1) := by decide +kernel
theorem dX6_leastLeftOut_46 : decode cX6_leastLeftOut 46 = .ok (.idiv, 1) := by decide +kernel
theorem dX6_leastLeftOut_47 : decode cX6_leastLeftOut 47 = .ok (.iload 4, 2) := by decide +kernel
theorem dX6_leastLeftOut_49 : decode cX6_leastLeftOut 49 = .ok (.iconst 2, 1) := by decide +kernel
theorem dX6_leastLeftOut_50 : decode cX6_leastLeftOut 50 = .ok (.irem, 1) := by decide +kernel
theorem dX6_leastLeftOut_51 : decode cX6_leastLeftOut 51 = .ok (.invokevirtual 148, 3) := by decide +kernel
theorem dX6_leastLeftOut_54 : decode cX6_leastLeftOut 54 = .ok (.iconst (-1), 1) := by decide +kernel
theorem dX6_leastLeftOut_55 : decode cX6_leastLeftOut 55 = .ok (.if_icmp .eq 29, 3) := by decide +kernel
theorem dX6_leastLeftOut_58 : decode cX6_leastLeftOut 58 = .ok (.aload_n 0, 1) := by decide +kernel
theorem dX6_leastLeftOut_59 : decode cX6_leastLeftOut 59 = .ok (.iload_n 1, 1) := by decide +kernel
theorem dX6_leastLeftOut_60 : decode cX6_leastLeftOut 60 = .ok (.iconst 1, 1) := by decide +kernel
theorem dX6_leastLeftOut_61 : decode cX6_leastLeftOut 61 = .ok (.isub, 1) := by decide +kernel
theorem dX6_leastLeftOut_62 : decode cX6_leastLeftOut 62 = .ok (.iload 4, 2) := by decide +kernel
theorem dX6_leastLeftOut_64 : decode cX6_leastLeftOut 64 = .ok (.iload_n 3, 1) := by decide +kernel
theorem dX6_leastLeftOut_65 : decode cX6_leastLeftOut 65 = .ok (.iconst 1, 1) := by decide +kernel
theorem dX6_leastLeftOut_66 : decode cX6_leastLeftOut 66 = .ok (.iload 4, 2) := by decide +kernel
theorem dX6_leastLeftOut_68 : decode cX6_leastLeftOut 68 = .ok (.ishl, 1) := by decide +kernel
theorem dX6_leastLeftOut_69 : decode cX6_leastLeftOut 69 = .ok (.ior, 1) := by decide +kernel
theorem dX6_leastLeftOut_70 : decode cX6_leastLeftOut 70 = .ok (.invokevirtual 248, 3) := by decide +kernel
theorem dX6_leastLeftOut_73 : decode cX6_leastLeftOut 73 = .ok (.istore 5, 2) := by decide +kernel
theorem dX6_leastLeftOut_75 : decode cX6_leastLeftOut 75 = .ok (.iload 5, 2) := by decide +kernel
theorem dX6_leastLeftOut_77 : decode cX6_leastLeftOut 77 = .ok (.iconst (-1), 1) := by decide +kernel
theorem dX6_leastLeftOut_78 : decode cX6_leastLeftOut 78 = .ok (.if_icmp .eq 6, 3) := by decide +kernel
theorem dX6_leastLeftOut_81 : decode cX6_leastLeftOut 81 = .ok (.iload 5, 2) := by decide +kernel
theorem dX6_leastLeftOut_83 : decode cX6_leastLeftOut 83 = .ok (.ireturn, 1) := by decide +kernel
theorem dX6_leastLeftOut_84 : decode cX6_leastLeftOut 84 = .ok (.iinc 4 1, 3) := by decide +kernel
theorem dX6_leastLeftOut_87 : decode cX6_leastLeftOut 87 = .ok (.goto (-54), 3) := by decide +kernel
theorem dX6_leastLeftOut_90 : decode cX6_leastLeftOut 90 = .ok (.iconst (-1), 1) := by decide +kernel
theorem dX6_leastLeftOut_91 : decode cX6_leastLeftOut 91 = .ok (.ireturn, 1) := by decide +kernel
theorem dX6_drawDraft_0 : decode cX6_drawDraft 0 = .ok (.iload_n 1, 1) := by decide +kernel
theorem dX6_drawDraft_1 : decode cX6_drawDraft 1 = .ok (.istore_n 2, 1) := by decide +kernel
theorem dX6_drawDraft_2 : decode cX6_drawDraft 2 = .ok (.aload_n 0, 1) := by decide +kernel
theorem dX6_drawDraft_3 : decode cX6_drawDraft 3 = .ok (.getfield 61, 3) := by decide +kernel
theorem dX6_drawDraft_6 : decode cX6_drawDraft 6 = .ok (.iconst 5, 1) := by decide +kernel
theorem dX6_drawDraft_7 : decode cX6_drawDraft 7 = .ok (.putfield 86, 3) := by decide +kernel
theorem dX6_drawDraft_10 : decode cX6_drawDraft 10 = .ok (.iconst 0, 1) := by decide +kernel
theorem dX6_drawDraft_11 : decode cX6_drawDraft 11 = .ok (.istore_n 3, 1) := by decide +kernel
theorem dX6_drawDraft_12 : decode cX6_drawDraft 12 = .ok (.iload_n 3, 1) := by decide +kernel
theorem dX6_drawDraft_13 : decode cX6_drawDraft 13 = .ok (.iconst 5, 1) := by decide +kernel
theorem dX6_drawDraft_14 : decode cX6_drawDraft 14 = .ok (.if_icmp .ge 66, 3) := by decide +kernel
theorem dX6_drawDraft_17 : decode cX6_drawDraft 17 = .ok (.iload_n 2, 1) := by decide +kernel
theorem dX6_drawDraft_18 : decode cX6_drawDraft 18 = .ok (.invokestatic 252, 3) := by decide +kernel
theorem dX6_drawDraft_21 : decode cX6_drawDraft 21 = .ok (.istore_n 2, 1) := by decide +kernel
theorem dX6_drawDraft_22 : decode cX6_drawDraft 22 = .ok (.aload_n 0, 1) := by decide +kernel
theorem dX6_drawDraft_23 : decode cX6_drawDraft 23 = .ok (.getfield 61, 3) := by decide +kernel
theorem dX6_drawDraft_26 : decode cX6_drawDraft 26 = .ok (.getfield 106, 3) := by decide +kernel
theorem dX6_drawDraft_29 : decode cX6_drawDraft 29 = .ok (.iload_n 3, 1) := by decide +kernel
theorem dX6_drawDraft_30 : decode cX6_drawDraft 30 = .ok (.iload_n 2, 1) := by decide +kernel
theorem dX6_drawDraft_31 : decode cX6_drawDraft 31 = .ok (.iconst 5, 1) := by decide +kernel
theorem dX6_drawDraft_32 : decode cX6_drawDraft 32 = .ok (.invokestatic 255, 3) := by decide +kernel
theorem dX6_drawDraft_35 : decode cX6_drawDraft 35 = .ok (.iastore, 1) := by decide +kernel
theorem dX6_drawDraft_36 : decode cX6_drawDraft 36 = .ok (.iload_n 2, 1) := by decide +kernel
theorem dX6_drawDraft_37 : decode cX6_drawDraft 37 = .ok (.invokestatic 252, 3) := by decide +kernel
theorem dX6_drawDraft_40 : decode cX6_drawDraft 40 = .ok (.istore_n 2, 1) := by decide +kernel
theorem dX6_drawDraft_41 : decode cX6_drawDraft 41 = .ok (.aload_n 0, 1) := by decide +kernel
theorem dX6_drawDraft_42 : decode cX6_drawDraft 42 = .ok (.getfield 61, 3) := by decide +kernel
theorem dX6_drawDraft_45 : decode cX6_drawDraft 45 = .ok (.getfield 110, 3) := by decide +kernel
theorem dX6_drawDraft_48 : decode cX6_drawDraft 48 = .ok (.iload_n 3, 1) := by decide +kernel
theorem dX6_drawDraft_49 : decode cX6_drawDraft 49 = .ok (.iload_n 2, 1) := by decide +kernel
theorem dX6_drawDraft_50 : decode cX6_drawDraft 50 = .ok (.iconst 5, 1) := by decide +kernel
theorem dX6_drawDraft_51 : decode cX6_drawDraft 51 = .ok (.invokestatic 255, 3) := by decide +kernel
theorem dX6_drawDraft_54 : decode cX6_drawDraft 54 = .ok (.iastore, 1) := by decide +kernel
theorem dX6_drawDraft_55 : decode cX6_drawDraft 55 = .ok (.iload_n 2, 1) := by decide +kernel
theorem dX6_drawDraft_56 : decode cX6_drawDraft 56 = .ok (.invokestatic 252, 3) := by decide +kernel
theorem dX6_drawDraft_59 : decode cX6_drawDraft 59 = .ok (.istore_n 2, 1) := by decide +kernel
theorem dX6_drawDraft_60 : decode cX6_drawDraft 60 = .ok (.aload_n 0, 1) := by decide +kernel
theorem dX6_drawDraft_61 : decode cX6_drawDraft 61 = .ok (.getfield 61, 3) := by decide +kernel
theorem dX6_drawDraft_64 : decode cX6_drawDraft 64 = .ok (.getfield 113, 3) := by decide +kernel
theorem dX6_drawDraft_67 : decode cX6_drawDraft 67 = .ok (.iload_n 3, 1) := by decide +kernel
theorem dX6_drawDraft_68 : decode cX6_drawDraft 68 = .ok (.iload_n 2, 1) := by decide +kernel
theorem dX6_drawDraft_69 : decode cX6_drawDraft 69 = .ok (.iconst 5, 1) := by decide +kernel
theorem dX6_drawDraft_70 : decode cX6_drawDraft 70 = .ok (.invokestatic 255, 3) := by decide +kernel
theorem dX6_drawDraft_73 : decode cX6_drawDraft 73 = .ok (.iastore, 1) := by decide +kernel
theorem dX6_drawDraft_74 : decode cX6_drawDraft 74 = .ok (.iinc 3 1, 3) := by decide +kernel
theorem dX6_drawDraft_77 : decode cX6_drawDraft 77 = .ok (.goto (-65), 3) := by decide +kernel
theorem dX6_drawDraft_80 : decode cX6_drawDraft 80 = .ok (.iload_n 2, 1) := by decide +kernel
theorem dX6_drawDraft_81 : decode cX6_drawDraft 81 = .ok (.ireturn, 1) := by decide +kernel
theorem dX6_nextSeed_0 : decode cX6_nextSeed 0 = .ok (.ldc2_w 258, 3) := by decide +kernel
theorem dX6_nextSeed_3 : decode cX6_nextSeed 3 = .ok (.iload_n 0, 1) := by decide +kernel
theorem dX6_nextSeed_4 : decode cX6_nextSeed 4 = .ok (.i2l, 1) := by decide +kernel
theorem dX6_nextSeed_5 : decode cX6_nextSeed 5 = .ok (.lmul, 1) := by decide +kernel
theorem dX6_nextSeed_6 : decode cX6_nextSeed 6 = .ok (.ldc2_w 260, 3) := by decide +kernel
theorem dX6_nextSeed_9 : decode cX6_nextSeed 9 = .ok (.ladd, 1) := by decide +kernel
theorem dX6_nextSeed_10 : decode cX6_nextSeed 10 = .ok (.ldc2_w 262, 3) := by decide +kernel
theorem dX6_nextSeed_13 : decode cX6_nextSeed 13 = .ok (.land, 1) := by decide +kernel
theorem dX6_nextSeed_14 : decode cX6_nextSeed 14 = .ok (.l2i, 1) := by decide +kernel
theorem dX6_nextSeed_15 : decode cX6_nextSeed 15 = .ok (.ireturn, 1) := by decide +kernel
theorem dX6_drawBy_0 : decode cX6_drawBy 0 = .ok (.iload_n 1, 1) := by decide +kernel
theorem dX6_drawBy_1 : decode cX6_drawBy 1 = .ok (.ifCond .le 12, 3) := by decide +kernel
theorem dX6_drawBy_4 : decode cX6_drawBy 4 = .ok (.iload_n 0, 1) := by decide +kernel
theorem dX6_drawBy_5 : decode cX6_drawBy 5 = .ok (.bipush 16, 2) := by decide +kernel
theorem dX6_drawBy_7 : decode cX6_drawBy 7 = .ok (.iushr, 1) := by decide +kernel
theorem dX6_drawBy_8 : decode cX6_drawBy 8 = .ok (.iload_n 1, 1) := by decide +kernel
theorem dX6_drawBy_9 : decode cX6_drawBy 9 = .ok (.irem, 1) := by decide +kernel
theorem dX6_drawBy_10 : decode cX6_drawBy 10 = .ok (.goto 4, 3) := by decide +kernel
theorem dX6_drawBy_13 : decode cX6_drawBy 13 = .ok (.iconst 0, 1) := by decide +kernel
theorem dX6_drawBy_14 : decode cX6_drawBy 14 = .ok (.ireturn, 1) := by decide +kernel
theorem dX6_isKind_0 : decode cX6_isKind 0 = .ok (.iload_n 0, 1) := by decide +kernel
theorem dX6_isKind_1 : decode cX6_isKind 1 = .ok (.ifCond .lt 12, 3) := by decide +kernel
theorem dX6_isKind_4 : decode cX6_isKind 4 = .ok (.iload_n 0, 1) := by decide +kernel
theorem dX6_isKind_5 : decode cX6_isKind 5 = .ok (.iconst 5, 1) := by decide +kernel
theorem dX6_isKind_6 : decode cX6_isKind 6 = .ok (.if_icmp .ge 7, 3) := by decide +kernel
theorem dX6_isKind_9 : decode cX6_isKind 9 = .ok (.iconst 1, 1) := by decide +kernel
theorem dX6_isKind_10 : decode cX6_isKind 10 = .ok (.goto 4, 3) := by decide +kernel
theorem dX6_isKind_13 : decode cX6_isKind 13 = .ok (.iconst 0, 1) := by decide +kernel
theorem dX6_isKind_14 : decode cX6_isKind 14 = .ok (.ireturn, 1) := by decide +kernel
theorem dX6_isEnd_0 : decode cX6_isEnd 0 = .ok (.iload_n 0, 1) := by decide +kernel
theorem dX6_isEnd_1 : decode cX6_isEnd 1 = .ok (.ifCond .eq 8, 3) := by decide +kernel
theorem dX6_isEnd_4 : decode cX6_isEnd 4 = .ok (.iload_n 0, 1) := by decide +kernel
theorem dX6_isEnd_5 : decode cX6_isEnd 5 = .ok (.iconst 1, 1) := by decide +kernel
theorem dX6_isEnd_6 : decode cX6_isEnd 6 = .ok (.if_icmp .ne 7, 3) := by decide +kernel
theorem dX6_isEnd_9 : decode cX6_isEnd 9 = .ok (.iconst 1, 1) := by decide +kernel
theorem dX6_isEnd_10 : decode cX6_isEnd 10 = .ok (.goto 4, 3) := by decide +kernel
theorem dX6_isEnd_13 : decode cX6_isEnd 13 = .ok (.iconst 0, 1) := by decide +kernel
theorem dX6_isEnd_14 : decode cX6_isEnd 14 = .ok (.ireturn, 1) := by decide +kernel
theorem dX6_endsOf_0 : decode cX6_endsOf 0 = .ok (.iload_n 0, 1) := by decide +kernel
theorem dX6_endsOf_1 : decode cX6_endsOf 1 = .ok (.lookupswitch 31 #[(0, 27), (2, 29)], 27) := by decide +kernel
theorem dX6_endsOf_28 : decode cX6_endsOf 28 = .ok (.iconst 1, 1) := by decide +kernel
theorem dX6_endsOf_29 : decode cX6_endsOf 29 = .ok (.ireturn, 1) := by decide +kernel
theorem dX6_endsOf_30 : decode cX6_endsOf 30 = .ok (.iconst 0, 1) := by decide +kernel
theorem dX6_endsOf_31 : decode cX6_endsOf 31 = .ok (.ireturn, 1) := by decide +kernel
theorem dX6_endsOf_32 : decode cX6_endsOf 32 = .ok (.iconst 2, 1) := by decide +kernel
theorem dX6_endsOf_33 : decode cX6_endsOf 33 = .ok (.ireturn, 1) := by decide +kernel
theorem dX6_doesAt_0 : decode cX6_doesAt 0 = .ok (.iload_n 0, 1) := by decide +kernel
theorem dX6_doesAt_1 : decode cX6_doesAt 1 = .ok (.tableswitch 59 1 4 #[31, 33, 35, 47], 31) := by decide +kernel
theorem dX6_doesAt_32 : decode cX6_doesAt 32 = .ok (.iload_n 2, 1) := by decide +kernel
theorem dX6_doesAt_33 : decode cX6_doesAt 33 = .ok (.ireturn, 1) := by decide +kernel
theorem dX6_doesAt_34 : decode cX6_doesAt 34 = .ok (.iconst 2, 1) := by decide +kernel
theorem dX6_doesAt_35 : decode cX6_doesAt 35 = .ok (.ireturn, 1) := by decide +kernel
theorem dX6_doesAt_36 : decode cX6_doesAt 36 = .ok (.iload_n 1, 1) := by decide +kernel
theorem dX6_doesAt_37 : decode cX6_doesAt 37 = .ok (.iconst 2, 1) := by decide +kernel
theorem dX6_doesAt_38 : decode cX6_doesAt 38 = .ok (.irem, 1) := by decide +kernel
theorem dX6_doesAt_39 : decode cX6_doesAt 39 = .ok (.ifCond .ne 7, 3) := by decide +kernel
theorem dX6_doesAt_42 : decode cX6_doesAt 42 = .ok (.iconst 1, 1) := by decide +kernel
theorem dX6_doesAt_43 : decode cX6_doesAt 43 = .ok (.goto 4, 3) := by decide +kernel
theorem dX6_doesAt_46 : decode cX6_doesAt 46 = .ok (.iconst 0, 1) := by decide +kernel
theorem dX6_doesAt_47 : decode cX6_doesAt 47 = .ok (.ireturn, 1) := by decide +kernel
theorem dX6_doesAt_48 : decode cX6_doesAt 48 = .ok (.iload_n 1, 1) := by decide +kernel
theorem dX6_doesAt_49 : decode cX6_doesAt 49 = .ok (.iconst 3, 1) := by decide +kernel
theorem dX6_doesAt_50 : decode cX6_doesAt 50 = .ok (.irem, 1) := by decide +kernel
theorem dX6_doesAt_51 : decode cX6_doesAt 51 = .ok (.ifCond .ne 7, 3) := by decide +kernel
theorem dX6_doesAt_54 : decode cX6_doesAt 54 = .ok (.iconst 1, 1) := by decide +kernel
theorem dX6_doesAt_55 : decode cX6_doesAt 55 = .ok (.goto 4, 3) := by decide +kernel
theorem dX6_doesAt_58 : decode cX6_doesAt 58 = .ok (.iconst 0, 1) := by decide +kernel
theorem dX6_doesAt_59 : decode cX6_doesAt 59 = .ok (.ireturn, 1) := by decide +kernel
theorem dX6_doesAt_60 : decode cX6_doesAt 60 = .ok (.iconst 0, 1) := by decide +kernel
theorem dX6_doesAt_61 : decode cX6_doesAt 61 = .ok (.ireturn, 1) := by decide +kernel
theorem dX7_init_0 : decode cX7_init 0 = .ok (.aload_n 0, 1) := by decide +kernel
theorem dX7_init_1 : decode cX7_init 1 = .ok (.invokespecial 1, 3) := by decide +kernel
theorem dX7_init_4 : decode cX7_init 4 = .ok (.aload_n 0, 1) := by decide +kernel
theorem dX7_init_5 : decode cX7_init 5 = .ok (.bipush 8, 2) := by decide +kernel
theorem dX7_init_7 : decode cX7_init 7 = .ok (.newarray .int, 2) := by decide +kernel
theorem dX7_init_9 : decode cX7_init 9 = .ok (.putfield 7, 3) := by decide +kernel
theorem dX7_init_12 : decode cX7_init 12 = .ok (.aload_n 0, 1) := by decide +kernel
theorem dX7_init_13 : decode cX7_init 13 = .ok (.bipush 16, 2) := by decide +kernel
theorem dX7_init_15 : decode cX7_init 15 = .ok (.newarray .int, 2) := by decide +kernel
theorem dX7_init_17 : decode cX7_init 17 = .ok (.putfield 13, 3) := by decide +kernel
theorem dX7_init_20 : decode cX7_init 20 = .ok (.aload_n 0, 1) := by decide +kernel
theorem dX7_init_21 : decode cX7_init 21 = .ok (.bipush 30, 2) := by decide +kernel
theorem dX7_init_23 : decode cX7_init 23 = .ok (.newarray .int, 2) := by decide +kernel
theorem dX7_init_25 : decode cX7_init 25 = .ok (.putfield 16, 3) := by decide +kernel
theorem dX7_init_28 : decode cX7_init 28 = .ok (.aload_n 0, 1) := by decide +kernel
theorem dX7_init_29 : decode cX7_init 29 = .ok (.bipush 6, 2) := by decide +kernel
theorem dX7_init_31 : decode cX7_init 31 = .ok (.newarray .int, 2) := by decide +kernel
theorem dX7_init_33 : decode cX7_init 33 = .ok (.putfield 19, 3) := by decide +kernel
theorem dX7_init_36 : decode cX7_init 36 = .ok (.aload_n 0, 1) := by decide +kernel
theorem dX7_init_37 : decode cX7_init 37 = .ok (.bipush 6, 2) := by decide +kernel
theorem dX7_init_39 : decode cX7_init 39 = .ok (.newarray .int, 2) := by decide +kernel
theorem dX7_init_41 : decode cX7_init 41 = .ok (.putfield 22, 3) := by decide +kernel
theorem dX7_init_44 : decode cX7_init 44 = .ok (.aload_n 0, 1) := by decide +kernel
theorem dX7_init_45 : decode cX7_init 45 = .ok (.bipush 6, 2) := by decide +kernel
theorem dX7_init_47 : decode cX7_init 47 = .ok (.newarray .int, 2) := by decide +kernel
theorem dX7_init_49 : decode cX7_init 49 = .ok (.putfield 25, 3) := by decide +kernel
theorem dX7_init_52 : decode cX7_init 52 = .ok (.aload_n 0, 1) := by decide +kernel
theorem dX7_init_53 : decode cX7_init 53 = .ok (.bipush 34, 2) := by decide +kernel
theorem dX7_init_55 : decode cX7_init 55 = .ok (.newarray .byte, 2) := by decide +kernel
theorem dX7_init_57 : decode cX7_init 57 = .ok (.putfield 28, 3) := by decide +kernel
theorem dX7_init_60 : decode cX7_init 60 = .ok (.aload_n 0, 1) := by decide +kernel
theorem dX7_init_61 : decode cX7_init 61 = .ok (.bipush 8, 2) := by decide +kernel
theorem dX7_init_63 : decode cX7_init 63 = .ok (.newarray .int, 2) := by decide +kernel
theorem dX7_init_65 : decode cX7_init 65 = .ok (.putfield 32, 3) := by decide +kernel
theorem dX7_init_68 : decode cX7_init 68 = .ok (.aload_n 0, 1) := by decide +kernel
theorem dX7_init_69 : decode cX7_init 69 = .ok (.bipush 16, 2) := by decide +kernel
theorem dX7_init_71 : decode cX7_init 71 = .ok (.newarray .int, 2) := by decide +kernel
theorem dX7_init_73 : decode cX7_init 73 = .ok (.putfield 35, 3) := by decide +kernel
theorem dX7_init_76 : decode cX7_init 76 = .ok (.aload_n 0, 1) := by decide +kernel
theorem dX7_init_77 : decode cX7_init 77 = .ok (.bipush 8, 2) := by decide +kernel
theorem dX7_init_79 : decode cX7_init 79 = .ok (.newarray .int, 2) := by decide +kernel
theorem dX7_init_81 : decode cX7_init 81 = .ok (.putfield 38, 3) := by decide +kernel
theorem dX7_init_84 : decode cX7_init 84 = .ok (.aload_n 0, 1) := by decide +kernel
theorem dX7_init_85 : decode cX7_init 85 = .ok (.bipush 16, 2) := by decide +kernel
theorem dX7_init_87 : decode cX7_init 87 = .ok (.newarray .int, 2) := by decide +kernel
theorem dX7_init_89 : decode cX7_init 89 = .ok (.putfield 41, 3) := by decide +kernel
theorem dX7_init_92 : decode cX7_init 92 = .ok (.aload_n 0, 1) := by decide +kernel
theorem dX7_init_93 : decode cX7_init 93 = .ok (.bipush 8, 2) := by decide +kernel
theorem dX7_init_95 : decode cX7_init 95 = .ok (.newarray .int, 2) := by decide +kernel
theorem dX7_init_97 : decode cX7_init 97 = .ok (.putfield 44, 3) := by decide +kernel
theorem dX7_init_100 : decode cX7_init 100 = .ok (.aload_n 0, 1) := by decide +kernel
theorem dX7_init_101 : decode cX7_init 101 = .ok (.bipush 8, 2) := by decide +kernel
theorem dX7_init_103 : decode cX7_init 103 = .ok (.newarray .int, 2) := by decide +kernel
theorem dX7_init_105 : decode cX7_init 105 = .ok (.putfield 47, 3) := by decide +kernel
theorem dX7_init_108 : decode cX7_init 108 = .ok (.aload_n 0, 1) := by decide +kernel
theorem dX7_init_109 : decode cX7_init 109 = .ok (.bipush 8, 2) := by decide +kernel
theorem dX7_init_111 : decode cX7_init 111 = .ok (.newarray .int, 2) := by decide +kernel
theorem dX7_init_113 : decode cX7_init 113 = .ok (.putfield 50, 3) := by decide +kernel
theorem dX7_init_116 : decode cX7_init 116 = .ok (.aload_n 0, 1) := by decide +kernel
theorem dX7_init_117 : decode cX7_init 117 = .ok (.bipush 8, 2) := by decide +kernel
theorem dX7_init_119 : decode cX7_init 119 = .ok (.newarray .int, 2) := by decide +kernel
theorem dX7_init_121 : decode cX7_init 121 = .ok (.putfield 53, 3) := by decide +kernel
theorem dX7_init_124 : decode cX7_init 124 = .ok (.aload_n 0, 1) := by decide +kernel
theorem dX7_init_125 : decode cX7_init 125 = .ok (.bipush 8, 2) := by decide +kernel
theorem dX7_init_127 : decode cX7_init 127 = .ok (.newarray .int, 2) := by decide +kernel
theorem dX7_init_129 : decode cX7_init 129 = .ok (.putfield 56, 3) := by decide +kernel
theorem dX7_init_132 : decode cX7_init 132 = .ok (.aload_n 0, 1) := by decide +kernel
theorem dX7_init_133 : decode cX7_init 133 = .ok (.bipush 8, 2) := by decide +kernel
theorem dX7_init_135 : decode cX7_init 135 = .ok (.newarray .int, 2) := by decide +kernel
theorem dX7_init_137 : decode cX7_init 137 = .ok (.putfield 59, 3) := by decide +kernel
theorem dX7_init_140 : decode cX7_init 140 = .ok (.aload_n 0, 1) := by decide +kernel
theorem dX7_init_141 : decode cX7_init 141 = .ok (.bipush 8, 2) := by decide +kernel
theorem dX7_init_143 : decode cX7_init 143 = .ok (.newarray .int, 2) := by decide +kernel
theorem dX7_init_145 : decode cX7_init 145 = .ok (.putfield 62, 3) := by decide +kernel
theorem dX7_init_148 : decode cX7_init 148 = .ok (.aload_n 0, 1) := by decide +kernel
theorem dX7_init_149 : decode cX7_init 149 = .ok (.sipush 128, 3) := by decide +kernel
theorem dX7_init_152 : decode cX7_init 152 = .ok (.newarray .int, 2) := by decide +kernel
theorem dX7_init_154 : decode cX7_init 154 = .ok (.putfield 65, 3) := by decide +kernel
theorem dX7_init_157 : decode cX7_init 157 = .ok (.aload_n 0, 1) := by decide +kernel
theorem dX7_init_158 : decode cX7_init 158 = .ok (.sipush 256, 3) := by decide +kernel
theorem dX7_init_161 : decode cX7_init 161 = .ok (.newarray .int, 2) := by decide +kernel
theorem dX7_init_163 : decode cX7_init 163 = .ok (.putfield 68, 3) := by decide +kernel
theorem dX7_init_166 : decode cX7_init 166 = .ok (.aload_n 0, 1) := by decide +kernel
theorem dX7_init_167 : decode cX7_init 167 = .ok (.bipush 64, 2) := by decide +kernel
theorem dX7_init_169 : decode cX7_init 169 = .ok (.newarray .int, 2) := by decide +kernel
theorem dX7_init_171 : decode cX7_init 171 = .ok (.putfield 71, 3) := by decide +kernel
theorem dX7_init_174 : decode cX7_init 174 = .ok (.aload_n 0, 1) := by decide +kernel
theorem dX7_init_175 : decode cX7_init 175 = .ok (.bipush 8, 2) := by decide +kernel
theorem dX7_init_177 : decode cX7_init 177 = .ok (.newarray .int, 2) := by decide +kernel
theorem dX7_init_179 : decode cX7_init 179 = .ok (.putfield 74, 3) := by decide +kernel
theorem dX7_init_182 : decode cX7_init 182 = .ok (.aload_n 0, 1) := by decide +kernel
theorem dX7_init_183 : decode cX7_init 183 = .ok (.bipush 16, 2) := by decide +kernel
theorem dX7_init_185 : decode cX7_init 185 = .ok (.newarray .int, 2) := by decide +kernel
theorem dX7_init_187 : decode cX7_init 187 = .ok (.putfield 77, 3) := by decide +kernel
theorem dX7_init_190 : decode cX7_init 190 = .ok (.aload_n 0, 1) := by decide +kernel
theorem dX7_init_191 : decode cX7_init 191 = .ok (.bipush 6, 2) := by decide +kernel
theorem dX7_init_193 : decode cX7_init 193 = .ok (.newarray .int, 2) := by decide +kernel
theorem dX7_init_195 : decode cX7_init 195 = .ok (.putfield 80, 3) := by decide +kernel
theorem dX7_init_198 : decode cX7_init 198 = .ok (.aload_n 0, 1) := by decide +kernel
theorem dX7_init_199 : decode cX7_init 199 = .ok (.bipush 6, 2) := by decide +kernel
theorem dX7_init_201 : decode cX7_init 201 = .ok (.newarray .int, 2) := by decide +kernel
theorem dX7_init_203 : decode cX7_init 203 = .ok (.putfield 83, 3) := by decide +kernel
theorem dX7_init_206 : decode cX7_init 206 = .ok (.aload_n 0, 1) := by decide +kernel
theorem dX7_init_207 : decode cX7_init 207 = .ok (.bipush 6, 2) := by decide +kernel
theorem dX7_init_209 : decode cX7_init 209 = .ok (.newarray .int, 2) := by decide +kernel
theorem dX7_init_211 : decode cX7_init 211 = .ok (.putfield 86, 3) := by decide +kernel
theorem dX7_init_214 : decode cX7_init 214 = .ok (.return_, 1) := by decide +kernel
theorem dX7_within_0 : decode cX7_within 0 = .ok (.iload_n 0, 1) := by decide +kernel
theorem dX7_within_1 : decode cX7_within 1 = .ok (.iload_n 1, 1) := by decide +kernel
theorem dX7_within_2 : decode cX7_within 2 = .ok (.if_icmp .lt 12, 3) := by decide +kernel
theorem dX7_within_5 : decode cX7_within 5 = .ok (.iload_n 0, 1) := by decide +kernel
theorem dX7_within_6 : decode cX7_within 6 = .ok (.iload_n 2, 1) := by decide +kernel
theorem dX7_within_7 : decode cX7_within 7 = .ok (.if_icmp .gt 7, 3) := by decide +kernel
theorem dX7_within_10 : decode cX7_within 10 = .ok (.iconst 1, 1) := by decide +kernel
theorem dX7_within_11 : decode cX7_within 11 = .ok (.goto 4, 3) := by decide +kernel
theorem dX7_within_14 : decode cX7_within 14 = .ok (.iconst 0, 1) := by decide +kernel
theorem dX7_within_15 : decode cX7_within 15 = .ok (.ireturn, 1) := by decide +kernel
theorem dX7_isIn_0 : decode cX7_isIn 0 = .ok (.iload_n 0, 1) := by decide +kernel
theorem dX7_isIn_1 : decode cX7_isIn 1 = .ok (.iload_n 1, 1) := by decide +kernel
theorem dX7_isIn_2 : decode cX7_isIn 2 = .ok (.ishr, 1) := by decide +kernel
theorem dX7_isIn_3 : decode cX7_isIn 3 = .ok (.iconst 1, 1) := by decide +kernel
theorem dX7_isIn_4 : decode cX7_isIn 4 = .ok (.iand, 1) := by decide +kernel
theorem dX7_isIn_5 : decode cX7_isIn 5 = .ok (.iconst 1, 1) := by decide +kernel
theorem dX7_isIn_6 : decode cX7_isIn 6 = .ok (.if_icmp .ne 7, 3) := by decide +kernel
theorem dX7_isIn_9 : decode cX7_isIn 9 = .ok (.iconst 1, 1) := by decide +kernel
theorem dX7_isIn_10 : decode cX7_isIn 10 = .ok (.goto 4, 3) := by decide +kernel
theorem dX7_isIn_13 : decode cX7_isIn 13 = .ok (.iconst 0, 1) := by decide +kernel
theorem dX7_isIn_14 : decode cX7_isIn 14 = .ok (.ireturn, 1) := by decide +kernel
theorem dX7_size_0 : decode cX7_size 0 = .ok (.iconst 0, 1) := by decide +kernel
theorem dX7_size_1 : decode cX7_size 1 = .ok (.istore_n 1, 1) := by decide +kernel
theorem dX7_size_2 : decode cX7_size 2 = .ok (.iconst 0, 1) := by decide +kernel
theorem dX7_size_3 : decode cX7_size 3 = .ok (.istore_n 2, 1) := by decide +kernel
theorem dX7_size_4 : decode cX7_size 4 = .ok (.iload_n 2, 1) := by decide +kernel
theorem dX7_size_5 : decode cX7_size 5 = .ok (.bipush 16, 2) := by decide +kernel
theorem dX7_size_7 : decode cX7_size 7 = .ok (.if_icmp .ge 17, 3) := by decide +kernel
theorem dX7_size_10 : decode cX7_size 10 = .ok (.iload_n 1, 1) := by decide +kernel
theorem dX7_size_11 : decode cX7_size 11 = .ok (.iload_n 0, 1) := by decide +kernel
theorem dX7_size_12 : decode cX7_size 12 = .ok (.iload_n 2, 1) := by decide +kernel
theorem dX7_size_13 : decode cX7_size 13 = .ok (.ishr, 1) := by decide +kernel
theorem dX7_size_14 : decode cX7_size 14 = .ok (.iconst 1, 1) := by decide +kernel
theorem dX7_size_15 : decode cX7_size 15 = .ok (.iand, 1) := by decide +kernel
theorem dX7_size_16 : decode cX7_size 16 = .ok (.iadd, 1) := by decide +kernel
theorem dX7_size_17 : decode cX7_size 17 = .ok (.istore_n 1, 1) := by decide +kernel
theorem dX7_size_18 : decode cX7_size 18 = .ok (.iinc 2 1, 3) := by decide +kernel
theorem dX7_size_21 : decode cX7_size 21 = .ok (.goto (-17), 3) := by decide +kernel
theorem dX7_size_24 : decode cX7_size 24 = .ok (.iload_n 1, 1) := by decide +kernel
theorem dX7_size_25 : decode cX7_size 25 = .ok (.ireturn, 1) := by decide +kernel
theorem dX7_letter_0 : decode cX7_letter 0 = .ok (.iload_n 1, 1) := by decide +kernel
theorem dX7_letter_1 : decode cX7_letter 1 = .ok (.bipush 32, 2) := by decide +kernel
theorem dX7_letter_3 : decode cX7_letter 3 = .ok (.bipush 126, 2) := by decide +kernel
theorem dX7_letter_5 : decode cX7_letter 5 = .ok (.invokestatic 89, 3) := by decide +kernel
theorem dX7_letter_8 : decode cX7_letter 8 = .ok (.ifCond .ne 6, 3) := by decide +kernel
theorem dX7_letter_11 : decode cX7_letter 11 = .ok (.bipush (-102), 2) := by decide +kernel
theorem dX7_letter_13 : decode cX7_letter 13 = .ok (.ireturn, 1) := by decide +kernel
theorem dX7_letter_14 : decode cX7_letter 14 = .ok (.aload_n 0, 1) := by decide +kernel
theorem dX7_letter_15 : decode cX7_letter 15 = .ok (.getfield 93, 3) := by decide +kernel
theorem dX7_letter_18 : decode cX7_letter 18 = .ok (.bipush 34, 2) := by decide +kernel
theorem dX7_letter_20 : decode cX7_letter 20 = .ok (.if_icmp .ne 6, 3) := by decide +kernel
theorem dX7_letter_23 : decode cX7_letter 23 = .ok (.bipush (-104), 2) := by decide +kernel
theorem dX7_letter_25 : decode cX7_letter 25 = .ok (.ireturn, 1) := by decide +kernel
theorem dX7_letter_26 : decode cX7_letter 26 = .ok (.aload_n 0, 1) := by decide +kernel
theorem dX7_letter_27 : decode cX7_letter 27 = .ok (.getfield 28, 3) := by decide +kernel
theorem dX7_letter_30 : decode cX7_letter 30 = .ok (.aload_n 0, 1) := by decide +kernel
theorem dX7_letter_31 : decode cX7_letter 31 = .ok (.getfield 93, 3) := by decide +kernel
theorem dX7_letter_34 : decode cX7_letter 34 = .ok (.iload_n 1, 1) := by decide +kernel
theorem dX7_letter_35 : decode cX7_letter 35 = .ok (.i2b, 1) := by decide +kernel
theorem dX7_letter_36 : decode cX7_letter 36 = .ok (.bastore, 1) := by decide +kernel
theorem dX7_letter_37 : decode cX7_letter 37 = .ok (.aload_n 0, 1) := by decide +kernel
theorem dX7_letter_38 : decode cX7_letter 38 = .ok (.dup, 1) := by decide +kernel
theorem dX7_letter_39 : decode cX7_letter 39 = .ok (.getfield 93, 3) := by decide +kernel
theorem dX7_letter_42 : decode cX7_letter 42 = .ok (.iconst 1, 1) := by decide +kernel
theorem dX7_letter_43 : decode cX7_letter 43 = .ok (.iadd, 1) := by decide +kernel
theorem dX7_letter_44 : decode cX7_letter 44 = .ok (.putfield 93, 3) := by decide +kernel
theorem dX7_letter_47 : decode cX7_letter 47 = .ok (.aload_n 0, 1) := by decide +kernel
theorem dX7_letter_48 : decode cX7_letter 48 = .ok (.getfield 93, 3) := by decide +kernel
theorem dX7_letter_51 : decode cX7_letter 51 = .ok (.ireturn, 1) := by decide +kernel
theorem dX7_blank_0 : decode cX7_blank 0 = .ok (.aload_n 0, 1) := by decide +kernel
theorem dX7_blank_1 : decode cX7_blank 1 = .ok (.getfield 93, 3) := by decide +kernel
theorem dX7_blank_4 : decode cX7_blank 4 = .ok (.istore_n 1, 1) := by decide +kernel
theorem dX7_blank_5 : decode cX7_blank 5 = .ok (.aload_n 0, 1) := by decide +kernel
theorem dX7_blank_6 : decode cX7_blank 6 = .ok (.iconst 0, 1) := by decide +kernel
theorem dX7_blank_7 : decode cX7_blank 7 = .ok (.putfield 93, 3) := by decide +kernel
theorem dX7_blank_10 : decode cX7_blank 10 = .ok (.iload_n 1, 1) := by decide +kernel
theorem dX7_blank_11 : decode cX7_blank 11 = .ok (.ireturn, 1) := by decide +kernel
theorem dX7_kindBy_0 : decode cX7_kindBy 0 = .ok (.iload_n 0, 1) := by decide +kernel
theorem dX7_kindBy_1 : decode cX7_kindBy 1 = .ok (.lookupswitch 61 #[(101, 55), (102, 53), (110, 51), (116, 59), (120, 57)], 51) := by decide +kernel
theorem dX7_kindBy_52 : decode cX7_kindBy 52 = .ok (.iconst 0, 1) := by decide +kernel
theorem dX7_kindBy_53 : decode cX7_kindBy 53 = .ok (.ireturn, 1) := by decide +kernel
theorem dX7_kindBy_54 : decode cX7_kindBy 54 = .ok (.iconst 1, 1) := by decide +kernel
theorem dX7_kindBy_55 : decode cX7_kindBy 55 = .ok (.ireturn, 1) := by decide +kernel
theorem dX7_kindBy_56 : decode cX7_kindBy 56 = .ok (.iconst 2, 1) := by decide +kernel
theorem dX7_kindBy_57 : decode cX7_kindBy 57 = .ok (.ireturn, 1) := by decide +kernel
theorem dX7_kindBy_58 : decode cX7_kindBy 58 = .ok (.iconst 3, 1) := by decide +kernel
theorem dX7_kindBy_59 : decode cX7_kindBy 59 = .ok (.ireturn, 1) := by decide +kernel
theorem dX7_kindBy_60 : decode cX7_kindBy 60 = .ok (.iconst 4, 1) := by decide +kernel
theorem dX7_kindBy_61 : decode cX7_kindBy 61 = .ok (.ireturn, 1) := by decide +kernel
theorem dX7_kindBy_62 : decode cX7_kindBy 62 = .ok (.iconst (-1), 1) := by decide +kernel
theorem dX7_kindBy_63 : decode cX7_kindBy 63 = .ok (.ireturn, 1) := by decide +kernel
theorem dX7_ends_0 : decode cX7_ends 0 = .ok (.iload_n 0, 1) := by decide +kernel
theorem dX7_ends_1 : decode cX7_ends 1 = .ok (.iconst 2, 1) := by decide +kernel
theorem dX7_ends_2 : decode cX7_ends 2 = .ok (.if_icmp .ne 7, 3) := by decide +kernel
theorem dX7_ends_5 : decode cX7_ends 5 = .ok (.iconst 0, 1) := by decide +kernel
theorem dX7_ends_6 : decode cX7_ends 6 = .ok (.goto 12, 3) := by decide +kernel
theorem dX7_ends_9 : decode cX7_ends 9 = .ok (.iload_n 0, 1) := by decide +kernel
theorem dX7_ends_10 : decode cX7_ends 10 = .ok (.ifCond .ne 7, 3) := by decide +kernel
theorem dX7_ends_13 : decode cX7_ends 13 = .ok (.iconst 1, 1) := by decide +kernel
theorem dX7_ends_14 : decode cX7_ends 14 = .ok (.goto 4, 3) := by decide +kernel
theorem dX7_ends_17 : decode cX7_ends 17 = .ok (.iconst 2, 1) := by decide +kernel
theorem dX7_ends_18 : decode cX7_ends 18 = .ok (.ireturn, 1) := by decide +kernel
theorem dX7_at_0 : decode cX7_at 0 = .ok (.iload_n 1, 1) := by decide +kernel
theorem dX7_at_1 : decode cX7_at 1 = .ok (.aload_n 0, 1) := by decide +kernel
theorem dX7_at_2 : decode cX7_at 2 = .ok (.getfield 93, 3) := by decide +kernel
theorem dX7_at_5 : decode cX7_at 5 = .ok (.if_icmp .ge 12, 3) := by decide +kernel
theorem dX7_at_8 : decode cX7_at 8 = .ok (.aload_n 0, 1) := by decide +kernel
theorem dX7_at_9 : decode cX7_at 9 = .ok (.getfield 28, 3) := by decide +kernel
theorem dX7_at_12 : decode cX7_at 12 = .ok (.iload_n 1, 1) := by decide +kernel
theorem dX7_at_13 : decode cX7_at 13 = .ok (.baload, 1) := by decide +kernel
theorem dX7_at_14 : decode cX7_at 14 = .ok (.goto 4, 3) := by decide +kernel
theorem dX7_at_17 : decode cX7_at 17 = .ok (.iconst 0, 1) := by decide +kernel
theorem dX7_at_18 : decode cX7_at 18 = .ok (.ireturn, 1) := by decide +kernel
theorem dX7_read_0 : decode cX7_read 0 = .ok (.aload_n 0, 1) := by decide +kernel
theorem dX7_read_1 : decode cX7_read 1 = .ok (.iconst 0, 1) := by decide +kernel
theorem dX7_read_2 : decode cX7_read 2 = .ok (.putfield 97, 3) := by decide +kernel
theorem dX7_read_5 : decode cX7_read 5 = .ok (.aload_n 0, 1) := by decide +kernel
theorem dX7_read_6 : decode cX7_read 6 = .ok (.iconst 0, 1) := by decide +kernel
theorem dX7_read_7 : decode cX7_read 7 = .ok (.putfield 101, 3) := by decide +kernel
theorem dX7_read_10 : decode cX7_read 10 = .ok (.aload_n 0, 1) := by decide +kernel
theorem dX7_read_11 : decode cX7_read 11 = .ok (.iconst (-1), 1) := by decide +kernel
theorem dX7_read_12 : decode cX7_read 12 = .ok (.putfield 104, 3) := by decide +kernel
theorem dX7_read_15 : decode cX7_read 15 = .ok (.iconst 0, 1) := by decide +kernel
theorem dX7_read_16 : decode cX7_read 16 = .ok (.istore_n 1, 1) := by decide +kernel
theorem dX7_read_17 : decode cX7_read 17 = .ok (.aload_n 0, 1) := by decide +kernel
theorem dX7_read_18 : decode cX7_read 18 = .ok (.iload_n 1, 1) := by decide +kernel
theorem dX7_read_19 : decode cX7_read 19 = .ok (.invokevirtual 107, 3) := by decide +kernel
theorem dX7_read_22 : decode cX7_read 22 = .ok (.invokestatic 111, 3) := by decide +kernel
theorem dX7_read_25 : decode cX7_read 25 = .ok (.istore_n 2, 1) := by decide +kernel
theorem dX7_read_26 : decode cX7_read 26 = .ok (.iload_n 2, 1) := by decide +kernel
theorem dX7_read_27 : decode cX7_read 27 = .ok (.iconst (-1), 1) := by decide +kernel
theorem dX7_read_28 : decode cX7_read 28 = .ok (.if_icmp .ne 5, 3) := by decide +kernel
theorem dX7_read_31 : decode cX7_read 31 = .ok (.iload_n 1, 1) := by decide +kernel
theorem dX7_read_32 : decode cX7_read 32 = .ok (.ireturn, 1) := by decide +kernel
theorem dX7_read_33 : decode cX7_read 33 = .ok (.iinc 1 1, 3) := by decide +kernel
theorem dX7_read_36 : decode cX7_read 36 = .ok (.aload_n 0, 1) := by decide +kernel
theorem dX7_read_37 : decode cX7_read 37 = .ok (.getfield 32, 3) := by decide +kernel
theorem dX7_read_40 : decode cX7_read 40 = .ok (.aload_n 0, 1) := by decide +kernel
theorem dX7_read_41 : decode cX7_read 41 = .ok (.getfield 101, 3) := by decide +kernel
theorem dX7_read_44 : decode cX7_read 44 = .ok (.iload_n 2, 1) := by decide +kernel
theorem dX7_read_45 : decode cX7_read 45 = .ok (.iastore, 1) := by decide +kernel
theorem dX7_read_46 : decode cX7_read 46 = .ok (.aload_n 0, 1) := by decide +kernel
theorem dX7_read_47 : decode cX7_read 47 = .ok (.getfield 35, 3) := by decide +kernel
theorem dX7_read_50 : decode cX7_read 50 = .ok (.iconst 2, 1) := by decide +kernel
theorem dX7_read_51 : decode cX7_read 51 = .ok (.aload_n 0, 1) := by decide +kernel
theorem dX7_read_52 : decode cX7_read 52 = .ok (.getfield 101, 3) := by decide +kernel
theorem dX7_read_55 : decode cX7_read 55 = .ok (.imul, 1) := by decide +kernel
theorem dX7_read_56 : decode cX7_read 56 = .ok (.iconst 0, 1) := by decide +kernel
theorem dX7_read_57 : decode cX7_read 57 = .ok (.iastore, 1) := by decide +kernel
theorem dX7_read_58 : decode cX7_read 58 = .ok (.aload_n 0, 1) := by decide +kernel
theorem dX7_read_59 : decode cX7_read 59 = .ok (.getfield 35, 3) := by decide +kernel
theorem dX7_read_62 : decode cX7_read 62 = .ok (.iconst 2, 1) := by decide +kernel
theorem dX7_read_63 : decode cX7_read 63 = .ok (.aload_n 0, 1) := by decide +kernel
theorem dX7_read_64 : decode cX7_read 64 = .ok (.getfield 101, 3) := by decide +kernel
theorem dX7_read_67 : decode cX7_read 67 = .ok (.imul, 1) := by decide +kernel
theorem dX7_read_68 : decode cX7_read 68 = .ok (.iconst 1, 1) := by decide +kernel
theorem dX7_read_69 : decode cX7_read 69 = .ok (.iadd, 1) := by decide +kernel
theorem dX7_read_70 : decode cX7_read 70 = .ok (.iconst 0, 1) := by decide +kernel
theorem dX7_read_71 : decode cX7_read 71 = .ok (.iastore, 1) := by decide +kernel
theorem dX7_read_72 : decode cX7_read 72 = .ok (.iconst 0, 1) := by decide +kernel
theorem dX7_read_73 : decode cX7_read 73 = .ok (.istore_n 3, 1) := by decide +kernel
theorem dX7_read_74 : decode cX7_read 74 = .ok (.iload_n 3, 1) := by decide +kernel
theorem dX7_read_75 : decode cX7_read 75 = .ok (.iload_n 2, 1) := by decide +kernel
theorem dX7_read_76 : decode cX7_read 76 = .ok (.invokestatic 114, 3) := by decide +kernel
theorem dX7_read_79 : decode cX7_read 79 = .ok (.if_icmp .ge 72, 3) := by decide +kernel
theorem dX7_read_82 : decode cX7_read 82 = .ok (.aload_n 0, 1) := by decide +kernel
theorem dX7_read_83 : decode cX7_read 83 = .ok (.iload_n 1, 1) := by decide +kernel
theorem dX7_read_84 : decode cX7_read 84 = .ok (.invokevirtual 107, 3) := by decide +kernel
theorem dX7_read_87 : decode cX7_read 87 = .ok (.bipush 48, 2) := by decide +kernel
theorem dX7_read_89 : decode cX7_read 89 = .ok (.isub, 1) := by decide +kernel
theorem dX7_read_90 : decode cX7_read 90 = .ok (.istore 4, 2) := by decide +kernel
theorem dX7_read_92 : decode cX7_read 92 = .ok (.iload 4, 2) := by decide +kernel
theorem dX7_read_94 : decode cX7_read 94 = .ok (.iconst 0, 1) := by decide +kernel
theorem dX7_read_95 : decode cX7_read 95 = .ok (.bipush 7, 2) := by decide +kernel
theorem dX7_read_97 : decode cX7_read 97 = .ok (.invokestatic 89, 3) := by decide +kernel
theorem dX7_read_100 : decode cX7_read 100 = .ok (.ifCond .ne 5, 3) := by decide +kernel
theorem dX7_read_103 : decode cX7_read 103 = .ok (.iload_n 1, 1) := by decide +kernel
theorem dX7_read_104 : decode cX7_read 104 = .ok (.ireturn, 1) := by decide +kernel
theorem dX7_read_105 : decode cX7_read 105 = .ok (.aload_n 0, 1) := by decide +kernel
theorem dX7_read_106 : decode cX7_read 106 = .ok (.getfield 35, 3) := by decide +kernel
theorem dX7_read_109 : decode cX7_read 109 = .ok (.iconst 2, 1) := by decide +kernel
theorem dX7_read_110 : decode cX7_read 110 = .ok (.aload_n 0, 1) := by decide +kernel
theorem dX7_read_111 : decode cX7_read 111 = .ok (.getfield 101, 3) := by decide +kernel
theorem dX7_read_114 : decode cX7_read 114 = .ok (.imul, 1) := by decide +kernel
theorem dX7_read_115 : decode cX7_read 115 = .ok (.iload_n 3, 1) := by decide +kernel
theorem dX7_read_116 : decode cX7_read 116 = .ok (.iadd, 1) := by decide +kernel
theorem dX7_read_117 : decode cX7_read 117 = .ok (.iload 4, 2) := by decide +kernel
theorem dX7_read_119 : decode cX7_read 119 = .ok (.iastore, 1) := by decide +kernel
theorem dX7_read_120 : decode cX7_read 120 = .ok (.aload_n 0, 1) := by decide +kernel
theorem dX7_read_121 : decode cX7_read 121 = .ok (.iload 4, 2) := by decide +kernel
theorem dX7_read_123 : decode cX7_read 123 = .ok (.aload_n 0, 1) := by decide +kernel
theorem dX7_read_124 : decode cX7_read 124 = .ok (.getfield 104, 3) := by decide +kernel
theorem dX7_read_127 : decode cX7_read 127 = .ok (.if_icmp .le 8, 3) := by decide +kernel
theorem dX7_read_130 : decode cX7_read 130 = .ok (.iload 4, 2) := by decide +kernel
theorem dX7_read_132 : decode cX7_read 132 = .ok (.goto 7, 3) := by decide +kernel
theorem dX7_read_135 : decode cX7_read 135 = .ok (.aload_n 0, 1) := by decide +kernel
theorem dX7_read_136 : decode cX7_read 136 = .ok (.getfield 104, 3) := by decide +kernel
theorem dX7_read_139 : decode cX7_read 139 = .ok (.putfield 104, 3) := by decide +kernel
theorem dX7_read_142 : decode cX7_read 142 = .ok (.iinc 1 1, 3) := by decide +kernel
theorem dX7_read_145 : decode cX7_read 145 = .ok (.iinc 3 1, 3) := by decide +kernel
theorem dX7_read_148 : decode cX7_read 148 = .ok (.goto (-74), 3) := by decide +kernel
theorem dX7_read_151 : decode cX7_read 151 = .ok (.aload_n 0, 1) := by decide +kernel
theorem dX7_read_152 : decode cX7_read 152 = .ok (.dup, 1) := by decide +kernel
theorem dX7_read_153 : decode cX7_read 153 = .ok (.getfield 101, 3) := by decide +kernel
theorem dX7_read_156 : decode cX7_read 156 = .ok (.iconst 1, 1) := by decide +kernel
theorem dX7_read_157 : decode cX7_read 157 = .ok (.iadd, 1) := by decide +kernel
theorem dX7_read_158 : decode cX7_read 158 = .ok (.putfield 101, 3) := by decide +kernel
theorem dX7_read_161 : decode cX7_read 161 = .ok (.aload_n 0, 1) := by decide +kernel
theorem dX7_read_162 : decode cX7_read 162 = .ok (.getfield 101, 3) := by decide +kernel
theorem dX7_read_165 : decode cX7_read 165 = .ok (.bipush 8, 2) := by decide +kernel
theorem dX7_read_167 : decode cX7_read 167 = .ok (.if_icmp .eq 13, 3) := by decide +kernel
theorem dX7_read_170 : decode cX7_read 170 = .ok (.aload_n 0, 1) := by decide +kernel
theorem dX7_read_171 : decode cX7_read 171 = .ok (.iload_n 1, 1) := by decide +kernel
theorem dX7_read_172 : decode cX7_read 172 = .ok (.invokevirtual 107, 3) := by decide +kernel
theorem dX7_read_175 : decode cX7_read 175 = .ok (.bipush 44, 2) := by decide +kernel
theorem dX7_read_177 : decode cX7_read 177 = .ok (.if_icmp .eq 22, 3) := by decide +kernel
theorem dX7_read_180 : decode cX7_read 180 = .ok (.aload_n 0, 1) := by decide +kernel
theorem dX7_read_181 : decode cX7_read 181 = .ok (.iload_n 1, 1) := by decide +kernel
theorem dX7_read_182 : decode cX7_read 182 = .ok (.aload_n 0, 1) := by decide +kernel
theorem dX7_read_183 : decode cX7_read 183 = .ok (.getfield 93, 3) := by decide +kernel
theorem dX7_read_186 : decode cX7_read 186 = .ok (.if_icmp .ne 7, 3) := by decide +kernel
theorem dX7_read_189 : decode cX7_read 189 = .ok (.iconst 1, 1) := by decide +kernel
theorem dX7_read_190 : decode cX7_read 190 = .ok (.goto 4, 3) := by decide +kernel
theorem dX7_read_193 : decode cX7_read 193 = .ok (.iconst 0, 1) := by decide +kernel
theorem dX7_read_194 : decode cX7_read 194 = .ok (.putfield 97, 3) := by decide +kernel
theorem dX7_read_197 : decode cX7_read 197 = .ok (.iload_n 1, 1) := by decide +kernel
theorem dX7_read_198 : decode cX7_read 198 = .ok (.ireturn, 1) := by decide +kernel
theorem dX7_read_199 : decode cX7_read 199 = .ok (.iinc 1 1, 3) := by decide +kernel
theorem dX7_read_202 : decode cX7_read 202 = .ok (.goto (-185), 3) := by decide +kernel
theorem dX7_fault_0 : decode cX7_fault 0 = .ok (.aload_n 0, 1) := by decide +kernel
theorem dX7_fault_1 : decode cX7_fault 1 = .ok (.invokevirtual 117, 3) := by decide +kernel
theorem dX7_fault_4 : decode cX7_fault 4 = .ok (.ireturn, 1) := by decide +kernel
theorem dX7_graph_0 : decode cX7_graph 0 = .ok (.aload_n 0, 1) := by decide +kernel
theorem dX7_graph_1 : decode cX7_graph 1 = .ok (.invokevirtual 117, 3) := by decide +kernel
theorem dX7_graph_4 : decode cX7_graph 4 = .ok (.pop, 1) := by decide +kernel
theorem dX7_graph_5 : decode cX7_graph 5 = .ok (.aload_n 0, 1) := by decide +kernel
theorem dX7_graph_6 : decode cX7_graph 6 = .ok (.getfield 97, 3) := by decide +kernel
theorem dX7_graph_9 : decode cX7_graph 9 = .ok (.ifCond .eq 14, 3) := by decide +kernel
theorem dX7_graph_12 : decode cX7_graph 12 = .ok (.aload_n 0, 1) := by decide +kernel
theorem dX7_graph_13 : decode cX7_graph 13 = .ok (.getfield 104, 3) := by decide +kernel
theorem dX7_graph_16 : decode cX7_graph 16 = .ok (.aload_n 0, 1) := by decide +kernel
theorem dX7_graph_17 : decode cX7_graph 17 = .ok (.getfield 101, 3) := by decide +kernel
theorem dX7_graph_20 : decode cX7_graph 20 = .ok (.if_icmp .lt 6, 3) := by decide +kernel
theorem dX7_graph_23 : decode cX7_graph 23 = .ok (.bipush (-103), 2) := by decide +kernel
theorem dX7_graph_25 : decode cX7_graph 25 = .ok (.ireturn, 1) := by decide +kernel
theorem dX7_graph_26 : decode cX7_graph 26 = .ok (.aload_n 0, 1) := by decide +kernel
theorem dX7_graph_27 : decode cX7_graph 27 = .ok (.aload_n 0, 1) := by decide +kernel
theorem dX7_graph_28 : decode cX7_graph 28 = .ok (.getfield 101, 3) := by decide +kernel
theorem dX7_graph_31 : decode cX7_graph 31 = .ok (.putfield 121, 3) := by decide +kernel
theorem dX7_graph_34 : decode cX7_graph 34 = .ok (.iconst 0, 1) := by decide +kernel
theorem dX7_graph_35 : decode cX7_graph 35 = .ok (.istore_n 1, 1) := by decide +kernel
theorem dX7_graph_36 : decode cX7_graph 36 = .ok (.iload_n 1, 1) := by decide +kernel
theorem dX7_graph_37 : decode cX7_graph 37 = .ok (.aload_n 0, 1) := by decide +kernel
theorem dX7_graph_38 : decode cX7_graph 38 = .ok (.getfield 121, 3) := by decide +kernel
theorem dX7_graph_41 : decode cX7_graph 41 = .ok (.if_icmp .ge 57, 3) := by decide +kernel
theorem dX7_graph_44 : decode cX7_graph 44 = .ok (.aload_n 0, 1) := by decide +kernel
theorem dX7_graph_45 : decode cX7_graph 45 = .ok (.getfield 7, 3) := by decide +kernel
theorem dX7_graph_48 : decode cX7_graph 48 = .ok (.iload_n 1, 1) := by decide +kernel
theorem dX7_graph_49 : decode cX7_graph 49 = .ok (.aload_n 0, 1) := by decide +kernel
theorem dX7_graph_50 : decode cX7_graph 50 = .ok (.getfield 32, 3) := by decide +kernel
theorem dX7_graph_53 : decode cX7_graph 53 = .ok (.iload_n 1, 1) := by decide +kernel
theorem dX7_graph_54 : decode cX7_graph 54 = .ok (.iaload, 1) := by decide +kernel
theorem dX7_graph_55 : decode cX7_graph 55 = .ok (.iastore, 1) := by decide +kernel
theorem dX7_graph_56 : decode cX7_graph 56 = .ok (.aload_n 0, 1) := by decide +kernel
theorem dX7_graph_57 : decode cX7_graph 57 = .ok (.getfield 13, 3) := by decide +kernel
theorem dX7_graph_60 : decode cX7_graph 60 = .ok (.iconst 2, 1) := by decide +kernel
theorem dX7_graph_61 : decode cX7_graph 61 = .ok (.iload_n 1, 1) := by decide +kernel
theorem dX7_graph_62 : decode cX7_graph 62 = .ok (.imul, 1) := by decide +kernel
theorem dX7_graph_63 : decode cX7_graph 63 = .ok (.aload_n 0, 1) := by decide +kernel
theorem dX7_graph_64 : decode cX7_graph 64 = .ok (.getfield 35, 3) := by decide +kernel
theorem dX7_graph_67 : decode cX7_graph 67 = .ok (.iconst 2, 1) := by decide +kernel
theorem dX7_graph_68 : decode cX7_graph 68 = .ok (.iload_n 1, 1) := by decide +kernel
theorem dX7_graph_69 : decode cX7_graph 69 = .ok (.imul, 1) := by decide +kernel
theorem dX7_graph_70 : decode cX7_graph 70 = .ok (.iaload, 1) := by decide +kernel
theorem dX7_graph_71 : decode cX7_graph 71 = .ok (.iastore, 1) := by decide +kernel
theorem dX7_graph_72 : decode cX7_graph 72 = .ok (.aload_n 0, 1) := by decide +kernel
theorem dX7_graph_73 : decode cX7_graph 73 = .ok (.getfield 13, 3) := by decide +kernel
theorem dX7_graph_76 : decode cX7_graph 76 = .ok (.iconst 2, 1) := by decide +kernel
theorem dX7_graph_77 : decode cX7_graph 77 = .ok (.iload_n 1, 1) := by decide +kernel
theorem dX7_graph_78 : decode cX7_graph 78 = .ok (.imul, 1) := by decide +kernel
theorem dX7_graph_79 : decode cX7_graph 79 = .ok (.iconst 1, 1) := by decide +kernel
theorem dX7_graph_80 : decode cX7_graph 80 = .ok (.iadd, 1) := by decide +kernel
theorem dX7_graph_81 : decode cX7_graph 81 = .ok (.aload_n 0, 1) := by decide +kernel
theorem dX7_graph_82 : decode cX7_graph 82 = .ok (.getfield 35, 3) := by decide +kernel
theorem dX7_graph_85 : decode cX7_graph 85 = .ok (.iconst 2, 1) := by decide +kernel
theorem dX7_graph_86 : decode cX7_graph 86 = .ok (.iload_n 1, 1) := by decide +kernel
theorem dX7_graph_87 : decode cX7_graph 87 = .ok (.imul, 1) := by decide +kernel
theorem dX7_graph_88 : decode cX7_graph 88 = .ok (.iconst 1, 1) := by decide +kernel
theorem dX7_graph_89 : decode cX7_graph 89 = .ok (.iadd, 1) := by decide +kernel
theorem dX7_graph_90 : decode cX7_graph 90 = .ok (.iaload, 1) := by decide +kernel
theorem dX7_graph_91 : decode cX7_graph 91 = .ok (.iastore, 1) := by decide +kernel
theorem dX7_graph_92 : decode cX7_graph 92 = .ok (.iinc 1 1, 3) := by decide +kernel
theorem dX7_graph_95 : decode cX7_graph 95 = .ok (.goto (-59), 3) := by decide +kernel
theorem dX7_graph_98 : decode cX7_graph 98 = .ok (.aload_n 0, 1) := by decide +kernel
theorem dX7_graph_99 : decode cX7_graph 99 = .ok (.iconst 0, 1) := by decide +kernel
theorem dX7_graph_100 : decode cX7_graph 100 = .ok (.putfield 124, 3) := by decide +kernel
theorem dX7_graph_103 : decode cX7_graph 103 = .ok (.aload_n 0, 1) := by decide +kernel
theorem dX7_graph_104 : decode cX7_graph 104 = .ok (.dup, 1) := by decide +kernel
theorem dX7_graph_105 : decode cX7_graph 105 = .ok (.getfield 127, 3) := by decide +kernel
theorem dX7_graph_108 : decode cX7_graph 108 = .ok (.iconst 1, 1) := by decide +kernel
theorem dX7_graph_109 : decode cX7_graph 109 = .ok (.iadd, 1) := by decide +kernel
theorem dX7_graph_110 : decode cX7_graph 110 = .ok (.putfield 127, 3) := by decide +kernel
theorem dX7_graph_113 : decode cX7_graph 113 = .ok (.aload_n 0, 1) := by decide +kernel
theorem dX7_graph_114 : decode cX7_graph 114 = .ok (.iconst 0, 1) := by decide +kernel
theorem dX7_graph_115 : decode cX7_graph 115 = .ok (.putfield 130, 3) := by decide +kernel
theorem dX7_graph_118 : decode cX7_graph 118 = .ok (.aload_n 0, 1) := by decide +kernel
theorem dX7_graph_119 : decode cX7_graph 119 = .ok (.iconst 0, 1) := by decide +kernel
theorem dX7_graph_120 : decode cX7_graph 120 = .ok (.putfield 93, 3) := by decide +kernel
theorem dX7_graph_123 : decode cX7_graph 123 = .ok (.aload_n 0, 1) := by decide +kernel
theorem dX7_graph_124 : decode cX7_graph 124 = .ok (.getfield 121, 3) := by decide +kernel
theorem dX7_graph_127 : decode cX7_graph 127 = .ok (.ireturn, 1) := by decide +kernel
theorem dX7_isNode_0 : decode cX7_isNode 0 = .ok (.iload_n 1, 1) := by decide +kernel
theorem dX7_isNode_1 : decode cX7_isNode 1 = .ok (.iconst 0, 1) := by decide +kernel
theorem dX7_isNode_2 : decode cX7_isNode 2 = .ok (.aload_n 0, 1) := by decide +kernel
theorem dX7_isNode_3 : decode cX7_isNode 3 = .ok (.getfield 121, 3) := by decide +kernel
theorem dX7_isNode_6 : decode cX7_isNode 6 = .ok (.iconst 1, 1) := by decide +kernel
theorem dX7_isNode_7 : decode cX7_isNode 7 = .ok (.isub, 1) := by decide +kernel
theorem dX7_isNode_8 : decode cX7_isNode 8 = .ok (.invokestatic 89, 3) := by decide +kernel
theorem dX7_isNode_11 : decode cX7_isNode 11 = .ok (.ireturn, 1) := by decide +kernel
theorem dX7_layGraph_0 : decode cX7_layGraph 0 = .ok (.aload_n 0, 1) := by decide +kernel
theorem dX7_layGraph_1 : decode cX7_layGraph 1 = .ok (.aload_n 0, 1) := by decide +kernel
theorem dX7_layGraph_2 : decode cX7_layGraph 2 = .ok (.getfield 121, 3) := by decide +kernel
theorem dX7_layGraph_5 : decode cX7_layGraph 5 = .ok (.putfield 133, 3) := by decide +kernel
theorem dX7_layGraph_8 : decode cX7_layGraph 8 = .ok (.aload_n 0, 1) := by decide +kernel
theorem dX7_layGraph_9 : decode cX7_layGraph 9 = .ok (.iconst 0, 1) := by decide +kernel
theorem dX7_layGraph_10 : decode cX7_layGraph 10 = .ok (.putfield 136, 3) := by decide +kernel
theorem dX7_layGraph_13 : decode cX7_layGraph 13 = .ok (.iconst 0, 1) := by decide +kernel
theorem dX7_layGraph_14 : decode cX7_layGraph 14 = .ok (.istore_n 1, 1) := by decide +kernel
theorem dX7_layGraph_15 : decode cX7_layGraph 15 = .ok (.iload_n 1, 1) := by decide +kernel
theorem dX7_layGraph_16 : decode cX7_layGraph 16 = .ok (.aload_n 0, 1) := by decide +kernel
theorem dX7_layGraph_17 : decode cX7_layGraph 17 = .ok (.getfield 121, 3) := by decide +kernel
theorem dX7_layGraph_20 : decode cX7_layGraph 20 = .ok (.if_icmp .ge 57, 3) := by decide +kernel
theorem dX7_layGraph_23 : decode cX7_layGraph 23 = .ok (.aload_n 0, 1) := by decide +kernel
theorem dX7_layGraph_24 : decode cX7_layGraph 24 = .ok (.getfield 38, 3) := by decide +kernel
theorem dX7_layGraph_27 : decode cX7_layGraph 27 = .ok (.iload_n 1, 1) := by decide +kernel
theorem dX7_layGraph_28 : decode cX7_layGraph 28 = .ok (.aload_n 0, 1) := by decide +kernel
theorem dX7_layGraph_29 : decode cX7_layGraph 29 = .ok (.getfield 7, 3) := by decide +kernel
theorem dX7_layGraph_32 : decode cX7_layGraph 32 = .ok (.iload_n 1, 1) := by decide +kernel
theorem dX7_layGraph_33 : decode cX7_layGraph 33 = .ok (.iaload, 1) := by decide +kernel
theorem dX7_layGraph_34 : decode cX7_layGraph 34 = .ok (.iastore, 1) := by decide +kernel
theorem dX7_layGraph_35 : decode cX7_layGraph 35 = .ok (.aload_n 0, 1) := by decide +kernel
theorem dX7_layGraph_36 : decode cX7_layGraph 36 = .ok (.getfield 41, 3) := by decide +kernel
theorem dX7_layGraph_39 : decode cX7_layGraph 39 = .ok (.iconst 2, 1) := by decide +kernel
theorem dX7_layGraph_40 : decode cX7_layGraph 40 = .ok (.iload_n 1, 1) := by decide +kernel
theorem dX7_layGraph_41 : decode cX7_layGraph 41 = .ok (.imul, 1) := by decide +kernel
theorem dX7_layGraph_42 : decode cX7_layGraph 42 = .ok (.aload_n 0, 1) := by decide +kernel
theorem dX7_layGraph_43 : decode cX7_layGraph 43 = .ok (.getfield 13, 3) := by decide +kernel
theorem dX7_layGraph_46 : decode cX7_layGraph 46 = .ok (.iconst 2, 1) := by decide +kernel
theorem dX7_layGraph_47 : decode cX7_layGraph 47 = .ok (.iload_n 1, 1) := by decide +kernel
theorem dX7_layGraph_48 : decode cX7_layGraph 48 = .ok (.imul, 1) := by decide +kernel
theorem dX7_layGraph_49 : decode cX7_layGraph 49 = .ok (.iaload, 1) := by decide +kernel
theorem dX7_layGraph_50 : decode cX7_layGraph 50 = .ok (.iastore, 1) := by decide +kernel
theorem dX7_layGraph_51 : decode cX7_layGraph 51 = .ok (.aload_n 0, 1) := by decide +kernel
theorem dX7_layGraph_52 : decode cX7_layGraph 52 = .ok (.getfield 41, 3) := by decide +kernel
theorem dX7_layGraph_55 : decode cX7_layGraph 55 = .ok (.iconst 2, 1) := by decide +kernel
theorem dX7_layGraph_56 : decode cX7_layGraph 56 = .ok (.iload_n 1, 1) := by decide +kernel
theorem dX7_layGraph_57 : decode cX7_layGraph 57 = .ok (.imul, 1) := by decide +kernel
theorem dX7_layGraph_58 : decode cX7_layGraph 58 = .ok (.iconst 1, 1) := by decide +kernel
theorem dX7_layGraph_59 : decode cX7_layGraph 59 = .ok (.iadd, 1) := by decide +kernel
theorem dX7_layGraph_60 : decode cX7_layGraph 60 = .ok (.aload_n 0, 1) := by decide +kernel
theorem dX7_layGraph_61 : decode cX7_layGraph 61 = .ok (.getfield 13, 3) := by decide +kernel
theorem dX7_layGraph_64 : decode cX7_layGraph 64 = .ok (.iconst 2, 1) := by decide +kernel
theorem dX7_layGraph_65 : decode cX7_layGraph 65 = .ok (.iload_n 1, 1) := by decide +kernel
theorem dX7_layGraph_66 : decode cX7_layGraph 66 = .ok (.imul, 1) := by decide +kernel
theorem dX7_layGraph_67 : decode cX7_layGraph 67 = .ok (.iconst 1, 1) := by decide +kernel
theorem dX7_layGraph_68 : decode cX7_layGraph 68 = .ok (.iadd, 1) := by decide +kernel
theorem dX7_layGraph_69 : decode cX7_layGraph 69 = .ok (.iaload, 1) := by decide +kernel
theorem dX7_layGraph_70 : decode cX7_layGraph 70 = .ok (.iastore, 1) := by decide +kernel
theorem dX7_layGraph_71 : decode cX7_layGraph 71 = .ok (.iinc 1 1, 3) := by decide +kernel
theorem dX7_layGraph_74 : decode cX7_layGraph 74 = .ok (.goto (-59), 3) := by decide +kernel
theorem dX7_layGraph_77 : decode cX7_layGraph 77 = .ok (.return_, 1) := by decide +kernel
theorem dX7_isEdge_0 : decode cX7_isEdge 0 = .ok (.iload_n 1, 1) := by decide +kernel
theorem dX7_isEdge_1 : decode cX7_isEdge 1 = .ok (.iconst 2, 1) := by decide +kernel
theorem dX7_isEdge_2 : decode cX7_isEdge 2 = .ok (.irem, 1) := by decide +kernel
theorem dX7_isEdge_3 : decode cX7_isEdge 3 = .ok (.aload_n 0, 1) := by decide +kernel
theorem dX7_isEdge_4 : decode cX7_isEdge 4 = .ok (.getfield 38, 3) := by decide +kernel
theorem dX7_isEdge_7 : decode cX7_isEdge 7 = .ok (.iload_n 1, 1) := by decide +kernel
theorem dX7_isEdge_8 : decode cX7_isEdge 8 = .ok (.iconst 2, 1) := by decide +kernel
theorem dX7_isEdge_9 : decode cX7_isEdge 9 = .ok (.idiv, 1) := by decide +kernel
theorem dX7_isEdge_10 : decode cX7_isEdge 10 = .ok (.iaload, 1) := by decide +kernel
theorem dX7_isEdge_11 : decode cX7_isEdge 11 = .ok (.invokestatic 114, 3) := by decide +kernel
theorem dX7_isEdge_14 : decode cX7_isEdge 14 = .ok (.if_icmp .ge 18, 3) := by decide +kernel
theorem dX7_isEdge_17 : decode cX7_isEdge 17 = .ok (.aload_n 0, 1) := by decide +kernel
theorem dX7_isEdge_18 : decode cX7_isEdge 18 = .ok (.getfield 136, 3) := by decide +kernel
theorem dX7_isEdge_21 : decode cX7_isEdge 21 = .ok (.iload_n 1, 1) := by decide +kernel
theorem dX7_isEdge_22 : decode cX7_isEdge 22 = .ok (.invokestatic 139, 3) := by decide +kernel
theorem dX7_isEdge_25 : decode cX7_isEdge 25 = .ok (.ifCond .ne 7, 3) := by decide +kernel
theorem dX7_isEdge_28 : decode cX7_isEdge 28 = .ok (.iconst 1, 1) := by decide +kernel
theorem dX7_isEdge_29 : decode cX7_isEdge 29 = .ok (.goto 4, 3) := by decide +kernel
theorem dX7_isEdge_32 : decode cX7_isEdge 32 = .ok (.iconst 0, 1) := by decide +kernel
theorem dX7_isEdge_33 : decode cX7_isEdge 33 = .ok (.ireturn, 1) := by decide +kernel
theorem dX7_layOrder_0 : decode cX7_layOrder 0 = .ok (.iconst 1, 1) := by decide +kernel
theorem dX7_layOrder_1 : decode cX7_layOrder 1 = .ok (.istore_n 1, 1) := by decide +kernel
theorem dX7_layOrder_2 : decode cX7_layOrder 2 = .ok (.iconst 0, 1) := by decide +kernel
theorem dX7_layOrder_3 : decode cX7_layOrder 3 = .ok (.istore_n 2, 1) := by decide +kernel
theorem dX7_layOrder_4 : decode cX7_layOrder 4 = .ok (.aload_n 0, 1) := by decide +kernel
theorem dX7_layOrder_5 : decode cX7_layOrder 5 = .ok (.getfield 56, 3) := by decide +kernel
theorem dX7_layOrder_8 : decode cX7_layOrder 8 = .ok (.iconst 0, 1) := by decide +kernel
theorem dX7_layOrder_9 : decode cX7_layOrder 9 = .ok (.iconst 0, 1) := by decide +kernel
theorem dX7_layOrder_10 : decode cX7_layOrder 10 = .ok (.iastore, 1) := by decide +kernel
theorem dX7_layOrder_11 : decode cX7_layOrder 11 = .ok (.aload_n 0, 1) := by decide +kernel
theorem dX7_layOrder_12 : decode cX7_layOrder 12 = .ok (.getfield 59, 3) := by decide +kernel
theorem dX7_layOrder_15 : decode cX7_layOrder 15 = .ok (.iconst 0, 1) := by decide +kernel
theorem dX7_layOrder_16 : decode cX7_layOrder 16 = .ok (.iconst 0, 1) := by decide +kernel
theorem dX7_layOrder_17 : decode cX7_layOrder 17 = .ok (.iastore, 1) := by decide +kernel
theorem dX7_layOrder_18 : decode cX7_layOrder 18 = .ok (.aload_n 0, 1) := by decide +kernel
theorem dX7_layOrder_19 : decode cX7_layOrder 19 = .ok (.iconst 1, 1) := by decide +kernel
theorem dX7_layOrder_20 : decode cX7_layOrder 20 = .ok (.putfield 143, 3) := by decide +kernel
theorem dX7_layOrder_23 : decode cX7_layOrder 23 = .ok (.iload_n 1, 1) := by decide +kernel
theorem dX7_layOrder_24 : decode cX7_layOrder 24 = .ok (.ifCond .le 136, 3) := by decide +kernel
theorem dX7_layOrder_27 : decode cX7_layOrder 27 = .ok (.aload_n 0, 1) := by decide +kernel
theorem dX7_layOrder_28 : decode cX7_layOrder 28 = .ok (.getfield 56, 3) := by decide +kernel
theorem dX7_layOrder_31 : decode cX7_layOrder 31 = .ok (.iload_n 1, 1) := by decide +kernel
theorem dX7_layOrder_32 : decode cX7_layOrder 32 = .ok (.iconst 1, 1) := by decide +kernel
theorem dX7_layOrder_33 : decode cX7_layOrder 33 = .ok (.isub, 1) := by decide +kernel
theorem dX7_layOrder_34 : decode cX7_layOrder 34 = .ok (.iaload, 1) := by decide +kernel
theorem dX7_layOrder_35 : decode cX7_layOrder 35 = .ok (.istore_n 3, 1) := by decide +kernel
theorem dX7_layOrder_36 : decode cX7_layOrder 36 = .ok (.aload_n 0, 1) := by decide +kernel
theorem dX7_layOrder_37 : decode cX7_layOrder 37 = .ok (.getfield 59, 3) := by decide +kernel
theorem dX7_layOrder_40 : decode cX7_layOrder 40 = .ok (.iload_n 1, 1) := by decide +kernel
theorem dX7_layOrder_41 : decode cX7_layOrder 41 = .ok (.iconst 1, 1) := by decide +kernel
theorem dX7_layOrder_42 : decode cX7_layOrder 42 = .ok (.isub, 1) := by decide +kernel
theorem dX7_layOrder_43 : decode cX7_layOrder 43 = .ok (.iaload, 1) := by decide +kernel
theorem dX7_layOrder_44 : decode cX7_layOrder 44 = .ok (.iconst 2, 1) := by decide +kernel
theorem dX7_layOrder_45 : decode cX7_layOrder 45 = .ok (.if_icmp .ne 19, 3) := by decide +kernel
theorem dX7_layOrder_48 : decode cX7_layOrder 48 = .ok (.aload_n 0, 1) := by decide +kernel
theorem dX7_layOrder_49 : decode cX7_layOrder 49 = .ok (.getfield 44, 3) := by decide +kernel
theorem dX7_layOrder_52 : decode cX7_layOrder 52 = .ok (.iload_n 2, 1) := by decide +kernel
theorem dX7_layOrder_53 : decode cX7_layOrder 53 = .ok (.iload_n 3, 1) := by decide +kernel
theorem dX7_layOrder_54 : decode cX7_layOrder 54 = .ok (.iastore, 1) := by decide +kernel
theorem dX7_layOrder_55 : decode cX7_layOrder 55 = .ok (.iinc 2 1, 3) := by decide +kernel
theorem dX7_layOrder_58 : decode cX7_layOrder 58 = .ok (.iinc 1 (-1), 3) := by decide +kernel
theorem dX7_layOrder_61 : decode cX7_layOrder 61 = .ok (.goto 96, 3) := by decide +kernel
theorem dX7_layOrder_64 : decode cX7_layOrder 64 = .ok (.iconst 2, 1) := by decide +kernel
theorem dX7_layOrder_65 : decode cX7_layOrder 65 = .ok (.iload_n 3, 1) := by decide +kernel
theorem dX7_layOrder_66 : decode cX7_layOrder 66 = .ok (.imul, 1) := by decide +kernel
theorem dX7_layOrder_67 : decode cX7_layOrder 67 = .ok (.aload_n 0, 1) := by decide +kernel
theorem dX7_layOrder_68 : decode cX7_layOrder 68 = .ok (.getfield 59, 3) := by decide +kernel
theorem dX7_layOrder_71 : decode cX7_layOrder 71 = .ok (.iload_n 1, 1) := by decide +kernel
theorem dX7_layOrder_72 : decode cX7_layOrder 72 = .ok (.iconst 1, 1) := by decide +kernel
theorem dX7_layOrder_73 : decode cX7_layOrder 73 = .ok (.isub, 1) := by decide +kernel
theorem dX7_layOrder_74 : decode cX7_layOrder 74 = .ok (.iaload, 1) := by decide +kernel
theorem dX7_layOrder_75 : decode cX7_layOrder 75 = .ok (.iadd, 1) := by decide +kernel
theorem dX7_layOrder_76 : decode cX7_layOrder 76 = .ok (.istore 4, 2) := by decide +kernel
theorem dX7_layOrder_78 : decode cX7_layOrder 78 = .ok (.aload_n 0, 1) := by decide +kernel
theorem dX7_layOrder_79 : decode cX7_layOrder 79 = .ok (.getfield 59, 3) := by decide +kernel
theorem dX7_layOrder_82 : decode cX7_layOrder 82 = .ok (.iload_n 1, 1) := by decide +kernel
theorem dX7_layOrder_83 : decode cX7_layOrder 83 = .ok (.iconst 1, 1) := by decide +kernel
theorem dX7_layOrder_84 : decode cX7_layOrder 84 = .ok (.isub, 1) := by decide +kernel
theorem dX7_layOrder_85 : decode cX7_layOrder 85 = .ok (.dup2, 1) := by decide +kernel
theorem dX7_layOrder_86 : decode cX7_layOrder 86 = .ok (.iaload, 1) := by decide +kernel
theorem dX7_layOrder_87 : decode cX7_layOrder 87 = .ok (.iconst 1, 1) := by decide +kernel
theorem dX7_layOrder_88 : decode cX7_layOrder 88 = .ok (.iadd, 1) := by decide +kernel
theorem dX7_layOrder_89 : decode cX7_layOrder 89 = .ok (.iastore, 1) := by decide +kernel
theorem dX7_layOrder_90 : decode cX7_layOrder 90 = .ok (.aload_n 0, 1) := by decide +kernel
theorem dX7_layOrder_91 : decode cX7_layOrder 91 = .ok (.iload 4, 2) := by decide +kernel
theorem dX7_layOrder_93 : decode cX7_layOrder 93 = .ok (.invokevirtual 146, 3) := by decide +kernel
theorem dX7_layOrder_96 : decode cX7_layOrder 96 = .ok (.ifCond .eq 61, 3) := by decide +kernel
theorem dX7_layOrder_99 : decode cX7_layOrder 99 = .ok (.aload_n 0, 1) := by decide +kernel
theorem dX7_layOrder_100 : decode cX7_layOrder 100 = .ok (.getfield 143, 3) := by decide +kernel
theorem dX7_layOrder_103 : decode cX7_layOrder 103 = .ok (.aload_n 0, 1) := by decide +kernel
theorem dX7_layOrder_104 : decode cX7_layOrder 104 = .ok (.getfield 41, 3) := by decide +kernel
theorem dX7_layOrder_107 : decode cX7_layOrder 107 = .ok (.iload 4, 2) := by decide +kernel
theorem dX7_layOrder_109 : decode cX7_layOrder 109 = .ok (.iaload, 1) := by decide +kernel
theorem dX7_layOrder_110 : decode cX7_layOrder 110 = .ok (.invokestatic 139, 3) := by decide +kernel
theorem dX7_layOrder_113 : decode cX7_layOrder 113 = .ok (.ifCond .ne 44, 3) := by decide +kernel
theorem dX7_layOrder_116 : decode cX7_layOrder 116 = .ok (.aload_n 0, 1) := by decide +kernel
theorem dX7_layOrder_117 : decode cX7_layOrder 117 = .ok (.dup, 1) := by decide +kernel
theorem dX7_layOrder_118 : decode cX7_layOrder 118 = .ok (.getfield 143, 3) := by decide +kernel
theorem dX7_layOrder_121 : decode cX7_layOrder 121 = .ok (.iconst 1, 1) := by decide +kernel
theorem dX7_layOrder_122 : decode cX7_layOrder 122 = .ok (.aload_n 0, 1) := by decide +kernel
theorem dX7_layOrder_123 : decode cX7_layOrder 123 = .ok (.getfield 41, 3) := by decide +kernel
theorem dX7_layOrder_126 : decode cX7_layOrder 126 = .ok (.iload 4, 2) := by decide +kernel
theorem dX7_layOrder_128 : decode cX7_layOrder 128 = .ok (.iaload, 1) := by decide +kernel
theorem dX7_layOrder_129 : decode cX7_layOrder 129 = .ok (.ishl, 1) := by decide +kernel
theorem dX7_layOrder_130 : decode cX7_layOrder 130 = .ok (.ior, 1) := by decide +kernel
theorem dX7_layOrder_131 : decode cX7_layOrder 131 = .ok (.putfield 143, 3) := by decide +kernel
theorem dX7_layOrder_134 : decode cX7_layOrder 134 = .ok (.aload_n 0, 1) := by decide +kernel
theorem dX7_layOrder_135 : decode cX7_layOrder 135 = .ok (.getfield 56, 3) := by decide +kernel
theorem dX7_layOrder_138 : decode cX7_layOrder 138 = .ok (.iload_n 1, 1) := by decide +kernel
theorem dX7_layOrder_139 : decode cX7_layOrder 139 = .ok (.aload_n 0, 1) := by decide +kernel
theorem dX7_layOrder_140 : decode cX7_layOrder 140 = .ok (.getfield 41, 3) := by decide +kernel
theorem dX7_layOrder_143 : decode cX7_layOrder 143 = .ok (.iload 4, 2) := by decide +kernel
theorem dX7_layOrder_145 : decode cX7_layOrder 145 = .ok (.iaload, 1) := by decide +kernel
theorem dX7_layOrder_146 : decode cX7_layOrder 146 = .ok (.iastore, 1) := by decide +kernel
theorem dX7_layOrder_147 : decode cX7_layOrder 147 = .ok (.aload_n 0, 1) := by decide +kernel
theorem dX7_layOrder_148 : decode cX7_layOrder 148 = .ok (.getfield 59, 3) := by decide +kernel
theorem dX7_layOrder_151 : decode cX7_layOrder 151 = .ok (.iload_n 1, 1) := by decide +kernel
theorem dX7_layOrder_152 : decode cX7_layOrder 152 = .ok (.iconst 0, 1) := by decide +kernel
theorem dX7_layOrder_153 : decode cX7_layOrder 153 = .ok (.iastore, 1) := by decide +kernel
theorem dX7_layOrder_154 : decode cX7_layOrder 154 = .ok (.iinc 1 1, 3) := by decide +kernel
theorem dX7_layOrder_157 : decode cX7_layOrder 157 = .ok (.goto (-134), 3) := by decide +kernel
theorem dX7_layOrder_160 : decode cX7_layOrder 160 = .ok (.aload_n 0, 1) := by decide +kernel
theorem dX7_layOrder_161 : decode cX7_layOrder 161 = .ok (.iload_n 2, 1) := by decide +kernel
theorem dX7_layOrder_162 : decode cX7_layOrder 162 = .ok (.putfield 150, 3) := by decide +kernel
theorem dX7_layOrder_165 : decode cX7_layOrder 165 = .ok (.iconst 0, 1) := by decide +kernel
theorem dX7_layOrder_166 : decode cX7_layOrder 166 = .ok (.istore_n 3, 1) := by decide +kernel
theorem dX7_layOrder_167 : decode cX7_layOrder 167 = .ok (.iload_n 3, 1) := by decide +kernel
theorem dX7_layOrder_168 : decode cX7_layOrder 168 = .ok (.iload_n 2, 1) := by decide +kernel
theorem dX7_layOrder_169 : decode cX7_layOrder 169 = .ok (.iconst 2, 1) := by decide +kernel
theorem dX7_layOrder_170 : decode cX7_layOrder 170 = .ok (.idiv, 1) := by decide +kernel
theorem dX7_layOrder_171 : decode cX7_layOrder 171 = .ok (.if_icmp .ge 45, 3) := by decide +kernel
theorem dX7_layOrder_174 : decode cX7_layOrder 174 = .ok (.aload_n 0, 1) := by decide +kernel
theorem dX7_layOrder_175 : decode cX7_layOrder 175 = .ok (.getfield 44, 3) := by decide +kernel
theorem dX7_layOrder_178 : decode cX7_layOrder 178 = .ok (.iload_n 3, 1) := by decide +kernel
theorem dX7_layOrder_179 : decode cX7_layOrder 179 = .ok (.iaload, 1) := by decide +kernel
theorem dX7_layOrder_180 : decode cX7_layOrder 180 = .ok (.istore 4, 2) := by decide +kernel
theorem dX7_layOrder_182 : decode cX7_layOrder 182 = .ok (.aload_n 0, 1) := by decide +kernel
theorem dX7_layOrder_183 : decode cX7_layOrder 183 = .ok (.getfield 44, 3) := by decide +kernel
theorem dX7_layOrder_186 : decode cX7_layOrder 186 = .ok (.iload_n 3, 1) := by decide +kernel
theorem dX7_layOrder_187 : decode cX7_layOrder 187 = .ok (.aload_n 0, 1) := by decide +kernel
theorem dX7_layOrder_188 : decode cX7_layOrder 188 = .ok (.getfield 44, 3) := by decide +kernel
theorem dX7_layOrder_191 : decode cX7_layOrder 191 = .ok (.iload_n 2, 1) := by decide +kernel
theorem dX7_layOrder_192 : decode cX7_layOrder 192 = .ok (.iconst 1, 1) := by decide +kernel
theorem dX7_layOrder_193 : decode cX7_layOrder 193 = .ok (.isub, 1) := by decide +kernel
theorem dX7_layOrder_194 : decode cX7_layOrder 194 = .ok (.iload_n 3, 1) := by decide +kernel
theorem dX7_layOrder_195 : decode cX7_layOrder 195 = .ok (.isub, 1) := by decide +kernel
theorem dX7_layOrder_196 : decode cX7_layOrder 196 = .ok (.iaload, 1) := by decide +kernel
theorem dX7_layOrder_197 : decode cX7_layOrder 197 = .ok (.iastore, 1) := by decide +kernel
theorem dX7_layOrder_198 : decode cX7_layOrder 198 = .ok (.aload_n 0, 1) := by decide +kernel
theorem dX7_layOrder_199 : decode cX7_layOrder 199 = .ok (.getfield 44, 3) := by decide +kernel
theorem dX7_layOrder_202 : decode cX7_layOrder 202 = .ok (.iload_n 2, 1) := by decide +kernel
theorem dX7_layOrder_203 : decode cX7_layOrder 203 = .ok (.iconst 1, 1) := by decide +kernel
theorem dX7_layOrder_204 : decode cX7_layOrder 204 = .ok (.isub, 1) := by decide +kernel
theorem dX7_layOrder_205 : decode cX7_layOrder 205 = .ok (.iload_n 3, 1) := by decide +kernel
theorem dX7_layOrder_206 : decode cX7_layOrder 206 = .ok (.isub, 1) := by decide +kernel
theorem dX7_layOrder_207 : decode cX7_layOrder 207 = .ok (.iload 4, 2) := by decide +kernel
theorem dX7_layOrder_209 : decode cX7_layOrder 209 = .ok (.iastore, 1) := by decide +kernel
theorem dX7_layOrder_210 : decode cX7_layOrder 210 = .ok (.iinc 3 1, 3) := by decide +kernel
theorem dX7_layOrder_213 : decode cX7_layOrder 213 = .ok (.goto (-46), 3) := by decide +kernel
theorem dX7_layOrder_216 : decode cX7_layOrder 216 = .ok (.iconst 0, 1) := by decide +kernel
theorem dX7_layOrder_217 : decode cX7_layOrder 217 = .ok (.istore_n 3, 1) := by decide +kernel
theorem dX7_layOrder_218 : decode cX7_layOrder 218 = .ok (.iload_n 3, 1) := by decide +kernel
theorem dX7_layOrder_219 : decode cX7_layOrder 219 = .ok (.iload_n 2, 1) := by decide +kernel
theorem dX7_layOrder_220 : decode cX7_layOrder 220 = .ok (.if_icmp .ge 21, 3) := by decide +kernel
theorem dX7_layOrder_223 : decode cX7_layOrder 223 = .ok (.aload_n 0, 1) := by decide +kernel
theorem dX7_layOrder_224 : decode cX7_layOrder 224 = .ok (.getfield 47, 3) := by decide +kernel
theorem dX7_layOrder_227 : decode cX7_layOrder 227 = .ok (.aload_n 0, 1) := by decide +kernel
theorem dX7_layOrder_228 : decode cX7_layOrder 228 = .ok (.getfield 44, 3) := by decide +kernel
theorem dX7_layOrder_231 : decode cX7_layOrder 231 = .ok (.iload_n 3, 1) := by decide +kernel
theorem dX7_layOrder_232 : decode cX7_layOrder 232 = .ok (.iaload, 1) := by decide +kernel
theorem dX7_layOrder_233 : decode cX7_layOrder 233 = .ok (.iload_n 3, 1) := by decide +kernel
theorem dX7_layOrder_234 : decode cX7_layOrder 234 = .ok (.iastore, 1) := by decide +kernel
theorem dX7_layOrder_235 : decode cX7_layOrder 235 = .ok (.iinc 3 1, 3) := by decide +kernel
theorem dX7_layOrder_238 : decode cX7_layOrder 238 = .ok (.goto (-20), 3) := by decide +kernel
theorem dX7_layOrder_241 : decode cX7_layOrder 241 = .ok (.return_, 1) := by decide +kernel
theorem dX7_without_0 : decode cX7_without 0 = .ok (.iload_n 1, 1) := by decide +kernel
theorem dX7_without_1 : decode cX7_without 1 = .ok (.ifCond .ne 7, 3) := by decide +kernel
theorem dX7_without_4 : decode cX7_without 4 = .ok (.iconst 0, 1) := by decide +kernel
theorem dX7_without_5 : decode cX7_without 5 = .ok (.goto 4, 3) := by decide +kernel
theorem dX7_without_8 : decode cX7_without 8 = .ok (.iconst 1, 1) := by decide +kernel
theorem dX7_without_9 : decode cX7_without 9 = .ok (.istore_n 2, 1) := by decide +kernel
theorem dX7_without_10 : decode cX7_without 10 = .ok (.iconst 0, 1) := by decide +kernel
theorem dX7_without_11 : decode cX7_without 11 = .ok (.istore_n 3, 1) := by decide +kernel
theorem dX7_without_12 : decode cX7_without 12 = .ok (.iload_n 3, 1) := by decide +kernel
theorem dX7_without_13 : decode cX7_without 13 = .ok (.bipush 8, 2) := by decide +kernel
theorem dX7_without_15 : decode cX7_without 15 = .ok (.if_icmp .ge 88, 3) := by decide +kernel
theorem dX7_without_18 : decode cX7_without 18 = .ok (.iconst 0, 1) := by decide +kernel
theorem dX7_without_19 : decode cX7_without 19 = .ok (.istore 4, 2) := by decide +kernel
theorem dX7_without_21 : decode cX7_without 21 = .ok (.iload 4, 2) := by decide +kernel
theorem dX7_without_23 : decode cX7_without 23 = .ok (.iconst 2, 1) := by decide +kernel
theorem dX7_without_24 : decode cX7_without 24 = .ok (.aload_n 0, 1) := by decide +kernel
theorem dX7_without_25 : decode cX7_without 25 = .ok (.getfield 133, 3) := by decide +kernel
theorem dX7_without_28 : decode cX7_without 28 = .ok (.imul, 1) := by decide +kernel
theorem dX7_without_29 : decode cX7_without 29 = .ok (.if_icmp .ge 68, 3) := by decide +kernel
theorem dX7_without_32 : decode cX7_without 32 = .ok (.iload_n 2, 1) := by decide +kernel
theorem dX7_without_33 : decode cX7_without 33 = .ok (.iload 4, 2) := by decide +kernel
theorem dX7_without_35 : decode cX7_without 35 = .ok (.iconst 2, 1) := by decide +kernel
theorem dX7_without_36 : decode cX7_without 36 = .ok (.idiv, 1) := by decide +kernel
theorem dX7_without_37 : decode cX7_without 37 = .ok (.invokestatic 139, 3) := by decide +kernel
theorem dX7_without_40 : decode cX7_without 40 = .ok (.ifCond .eq 27, 3) := by decide +kernel
theorem dX7_without_43 : decode cX7_without 43 = .ok (.aload_n 0, 1) := by decide +kernel
theorem dX7_without_44 : decode cX7_without 44 = .ok (.iload 4, 2) := by decide +kernel
theorem dX7_without_46 : decode cX7_without 46 = .ok (.invokevirtual 146, 3) := by decide +kernel
theorem dX7_without_49 : decode cX7_without 49 = .ok (.ifCond .eq 18, 3) := by decide +kernel
theorem dX7_without_52 : decode cX7_without 52 = .ok (.aload_n 0, 1) := by decide +kernel
theorem dX7_without_53 : decode cX7_without 53 = .ok (.getfield 41, 3) := by decide +kernel
theorem dX7_without_56 : decode cX7_without 56 = .ok (.iload 4, 2) := by decide +kernel
theorem dX7_without_58 : decode cX7_without 58 = .ok (.iaload, 1) := by decide +kernel
theorem dX7_without_59 : decode cX7_without 59 = .ok (.iload_n 1, 1) := by decide +kernel
theorem dX7_without_60 : decode cX7_without 60 = .ok (.if_icmp .eq 7, 3) := by decide +kernel
theorem dX7_without_63 : decode cX7_without 63 = .ok (.iconst 1, 1) := by decide +kernel
theorem dX7_without_64 : decode cX7_without 64 = .ok (.goto 4, 3) := by decide +kernel
theorem dX7_without_67 : decode cX7_without 67 = .ok (.iconst 0, 1) := by decide +kernel
theorem dX7_without_68 : decode cX7_without 68 = .ok (.istore 5, 2) := by decide +kernel
theorem dX7_without_70 : decode cX7_without 70 = .ok (.iload_n 2, 1) := by decide +kernel
theorem dX7_without_71 : decode cX7_without 71 = .ok (.iload 5, 2) := by decide +kernel
theorem dX7_without_73 : decode cX7_without 73 = .ok (.ifCond .eq 15, 3) := by decide +kernel
theorem dX7_without_76 : decode cX7_without 76 = .ok (.iconst 1, 1) := by decide +kernel
theorem dX7_without_77 : decode cX7_without 77 = .ok (.aload_n 0, 1) := by decide +kernel
theorem dX7_without_78 : decode cX7_without 78 = .ok (.getfield 41, 3) := by decide +kernel
theorem dX7_without_81 : decode cX7_without 81 = .ok (.iload 4, 2) := by decide +kernel
theorem dX7_without_83 : decode cX7_without 83 = .ok (.iaload, 1) := by decide +kernel
theorem dX7_without_84 : decode cX7_without 84 = .ok (.ishl, 1) := by decide +kernel
theorem dX7_without_85 : decode cX7_without 85 = .ok (.goto 4, 3) := by decide +kernel
theorem dX7_without_88 : decode cX7_without 88 = .ok (.iconst 0, 1) := by decide +kernel
theorem dX7_without_89 : decode cX7_without 89 = .ok (.ior, 1) := by decide +kernel
theorem dX7_without_90 : decode cX7_without 90 = .ok (.istore_n 2, 1) := by decide +kernel
theorem dX7_without_91 : decode cX7_without 91 = .ok (.iinc 4 1, 3) := by decide +kernel
theorem dX7_without_94 : decode cX7_without 94 = .ok (.goto (-73), 3) := by decide +kernel
theorem dX7_without_97 : decode cX7_without 97 = .ok (.iinc 3 1, 3) := by decide +kernel
theorem dX7_without_100 : decode cX7_without 100 = .ok (.goto (-88), 3) := by decide +kernel
theorem dX7_without_103 : decode cX7_without 103 = .ok (.iload_n 2, 1) := by decide +kernel
theorem dX7_without_104 : decode cX7_without 104 = .ok (.ireturn, 1) := by decide +kernel
theorem dX7_layLords_0 : decode cX7_layLords 0 = .ok (.iconst 0, 1) := by decide +kernel
theorem dX7_layLords_1 : decode cX7_layLords 1 = .ok (.istore_n 1, 1) := by decide +kernel
theorem dX7_layLords_2 : decode cX7_layLords 2 = .ok (.iload_n 1, 1) := by decide +kernel
theorem dX7_layLords_3 : decode cX7_layLords 3 = .ok (.aload_n 0, 1) := by decide +kernel
theorem dX7_layLords_4 : decode cX7_layLords 4 = .ok (.getfield 133, 3) := by decide +kernel
theorem dX7_layLords_7 : decode cX7_layLords 7 = .ok (.if_icmp .ge 23, 3) := by decide +kernel
theorem dX7_layLords_10 : decode cX7_layLords 10 = .ok (.aload_n 0, 1) := by decide +kernel
theorem dX7_layLords_11 : decode cX7_layLords 11 = .ok (.getfield 50, 3) := by decide +kernel
theorem dX7_layLords_14 : decode cX7_layLords 14 = .ok (.iload_n 1, 1) := by decide +kernel
theorem dX7_layLords_15 : decode cX7_layLords 15 = .ok (.iconst 0, 1) := by decide +kernel
theorem dX7_layLords_16 : decode cX7_layLords 16 = .ok (.iastore, 1) := by decide +kernel
theorem dX7_layLords_17 : decode cX7_layLords 17 = .ok (.aload_n 0, 1) := by decide +kernel
theorem dX7_layLords_18 : decode cX7_layLords 18 = .ok (.getfield 53, 3) := by decide +kernel
theorem dX7_layLords_21 : decode cX7_layLords 21 = .ok (.iload_n 1, 1) := by decide +kernel
theorem dX7_layLords_22 : decode cX7_layLords 22 = .ok (.iconst (-1), 1) := by decide +kernel
theorem dX7_layLords_23 : decode cX7_layLords 23 = .ok (.iastore, 1) := by decide +kernel
theorem dX7_layLords_24 : decode cX7_layLords 24 = .ok (.iinc 1 1, 3) := by decide +kernel
theorem dX7_layLords_27 : decode cX7_layLords 27 = .ok (.goto (-25), 3) := by decide +kernel
theorem dX7_layLords_30 : decode cX7_layLords 30 = .ok (.iconst 0, 1) := by decide +kernel
theorem dX7_layLords_31 : decode cX7_layLords 31 = .ok (.istore_n 1, 1) := by decide +kernel
theorem dX7_layLords_32 : decode cX7_layLords 32 = .ok (.iload_n 1, 1) := by decide +kernel
theorem dX7_layLords_33 : decode cX7_layLords 33 = .ok (.aload_n 0, 1) := by decide +kernel
theorem dX7_layLords_34 : decode cX7_layLords 34 = .ok (.getfield 133, 3) := by decide +kernel
theorem dX7_layLords_37 : decode cX7_layLords 37 = .ok (.if_icmp .ge 77, 3) := by decide +kernel
theorem dX7_layLords_40 : decode cX7_layLords 40 = .ok (.aload_n 0, 1) := by decide +kernel
theorem dX7_layLords_41 : decode cX7_layLords 41 = .ok (.getfield 143, 3) := by decide +kernel
theorem dX7_layLords_44 : decode cX7_layLords 44 = .ok (.iload_n 1, 1) := by decide +kernel
theorem dX7_layLords_45 : decode cX7_layLords 45 = .ok (.invokestatic 139, 3) := by decide +kernel
theorem dX7_layLords_48 : decode cX7_layLords 48 = .ok (.ifCond .eq 18, 3) := by decide +kernel
theorem dX7_layLords_51 : decode cX7_layLords 51 = .ok (.aload_n 0, 1) := by decide +kernel
theorem dX7_layLords_52 : decode cX7_layLords 52 = .ok (.getfield 143, 3) := by decide +kernel
theorem dX7_layLords_55 : decode cX7_layLords 55 = .ok (.aload_n 0, 1) := by decide +kernel
theorem dX7_layLords_56 : decode cX7_layLords 56 = .ok (.iload_n 1, 1) := by decide +kernel
theorem dX7_layLords_57 : decode cX7_layLords 57 = .ok (.invokevirtual 153, 3) := by decide +kernel
theorem dX7_layLords_60 : decode cX7_layLords 60 = .ok (.iconst (-1), 1) := by decide +kernel
theorem dX7_layLords_61 : decode cX7_layLords 61 = .ok (.ixor, 1) := by decide +kernel
theorem dX7_layLords_62 : decode cX7_layLords 62 = .ok (.iand, 1) := by decide +kernel
theorem dX7_layLords_63 : decode cX7_layLords 63 = .ok (.goto 4, 3) := by decide +kernel
theorem dX7_layLords_66 : decode cX7_layLords 66 = .ok (.iconst 0, 1) := by decide +kernel
theorem dX7_layLords_67 : decode cX7_layLords 67 = .ok (.istore_n 2, 1) := by decide +kernel
theorem dX7_layLords_68 : decode cX7_layLords 68 = .ok (.iconst 0, 1) := by decide +kernel
theorem dX7_layLords_69 : decode cX7_layLords 69 = .ok (.istore_n 3, 1) := by decide +kernel
theorem dX7_layLords_70 : decode cX7_layLords 70 = .ok (.iload_n 3, 1) := by decide +kernel
theorem dX7_layLords_71 : decode cX7_layLords 71 = .ok (.aload_n 0, 1) := by decide +kernel
theorem dX7_layLords_72 : decode cX7_layLords 72 = .ok (.getfield 133, 3) := by decide +kernel
theorem dX7_layLords_75 : decode cX7_layLords 75 = .ok (.if_icmp .ge 33, 3) := by decide +kernel
theorem dX7_layLords_78 : decode cX7_layLords 78 = .ok (.aload_n 0, 1) := by decide +kernel
theorem dX7_layLords_79 : decode cX7_layLords 79 = .ok (.getfield 50, 3) := by decide +kernel
theorem dX7_layLords_82 : decode cX7_layLords 82 = .ok (.iload_n 3, 1) := by decide +kernel
theorem dX7_layLords_83 : decode cX7_layLords 83 = .ok (.dup2, 1) := by decide +kernel
theorem dX7_layLords_84 : decode cX7_layLords 84 = .ok (.iaload, 1) := by decide +kernel
theorem dX7_layLords_85 : decode cX7_layLords 85 = .ok (.iload_n 2, 1) := by decide +kernel
theorem dX7_layLords_86 : decode cX7_layLords 86 = .ok (.iload_n 3, 1) := by decide +kernel
theorem dX7_layLords_87 : decode cX7_layLords 87 = .ok (.invokestatic 139, 3) := by decide +kernel
theorem dX7_layLords_90 : decode cX7_layLords 90 = .ok (.ifCond .eq 9, 3) := by decide +kernel
theorem dX7_layLords_93 : decode cX7_layLords 93 = .ok (.iconst 1, 1) := by decide +kernel
theorem dX7_layLords_94 : decode cX7_layLords 94 = .ok (.iload_n 1, 1) := by decide +kernel
theorem dX7_layLords_95 : decode cX7_layLords 95 = .ok (.ishl, 1) := by decide +kernel
theorem dX7_layLords_96 : decode cX7_layLords 96 = .ok (.goto 4, 3) := by decide +kernel
theorem dX7_layLords_99 : decode cX7_layLords 99 = .ok (.iconst 0, 1) := by decide +kernel
theorem dX7_layLords_100 : decode cX7_layLords 100 = .ok (.ior, 1) := by decide +kernel
theorem dX7_layLords_101 : decode cX7_layLords 101 = .ok (.iastore, 1) := by decide +kernel
theorem dX7_layLords_102 : decode cX7_layLords 102 = .ok (.iinc 3 1, 3) := by decide +kernel
theorem dX7_layLords_105 : decode cX7_layLords 105 = .ok (.goto (-35), 3) := by decide +kernel
theorem dX7_layLords_108 : decode cX7_layLords 108 = .ok (.iinc 1 1, 3) := by decide +kernel
theorem dX7_layLords_111 : decode cX7_layLords 111 = .ok (.goto (-79), 3) := by decide +kernel
theorem dX7_layLords_114 : decode cX7_layLords 114 = .ok (.iconst 0, 1) := by decide +kernel
theorem dX7_layLords_115 : decode cX7_layLords 115 = .ok (.istore_n 1, 1) := by decide +kernel
theorem dX7_layLords_116 : decode cX7_layLords 116 = .ok (.iload_n 1, 1) := by decide +kernel
theorem dX7_layLords_117 : decode cX7_layLords 117 = .ok (.aload_n 0, 1) := by decide +kernel
theorem dX7_layLords_118 : decode cX7_layLords 118 = .ok (.getfield 133, 3) := by decide +kernel
theorem dX7_layLords_121 : decode cX7_layLords 121 = .ok (.if_icmp .ge 92, 3) := by decide +kernel
theorem dX7_layLords_124 : decode cX7_layLords 124 = .ok (.iconst 0, 1) := by decide +kernel
theorem dX7_layLords_125 : decode cX7_layLords 125 = .ok (.istore_n 2, 1) := by decide +kernel
theorem dX7_layLords_126 : decode cX7_layLords 126 = .ok (.iload_n 2, 1) := by decide +kernel
theorem dX7_layLords_127 : decode cX7_layLords 127 = .ok (.aload_n 0, 1) := by decide +kernel
theorem dX7_layLords_128 : decode cX7_layLords 128 = .ok (.getfield 133, 3) := by decide +kernel
theorem dX7_layLords_131 : decode cX7_layLords 131 = .ok (.if_icmp .ge 76, 3) := by decide +kernel
theorem dX7_layLords_134 : decode cX7_layLords 134 = .ok (.iload_n 2, 1) := by decide +kernel
theorem dX7_layLords_135 : decode cX7_layLords 135 = .ok (.iload_n 1, 1) := by decide +kernel
theorem dX7_layLords_136 : decode cX7_layLords 136 = .ok (.if_icmp .eq 43, 3) := by decide +kernel
theorem dX7_layLords_139 : decode cX7_layLords 139 = .ok (.aload_n 0, 1) := by decide +kernel
theorem dX7_layLords_140 : decode cX7_layLords 140 = .ok (.getfield 50, 3) := by decide +kernel
theorem dX7_layLords_143 : decode cX7_layLords 143 = .ok (.iload_n 1, 1) := by decide +kernel
theorem dX7_layLords_144 : decode cX7_layLords 144 = .ok (.iaload, 1) := by decide +kernel
theorem dX7_layLords_145 : decode cX7_layLords 145 = .ok (.iload_n 2, 1) := by decide +kernel
theorem dX7_layLords_146 : decode cX7_layLords 146 = .ok (.invokestatic 139, 3) := by decide +kernel
theorem dX7_layLords_149 : decode cX7_layLords 149 = .ok (.ifCond .eq 30, 3) := by decide +kernel
theorem dX7_layLords_152 : decode cX7_layLords 152 = .ok (.aload_n 0, 1) := by decide +kernel
theorem dX7_layLords_153 : decode cX7_layLords 153 = .ok (.getfield 50, 3) := by decide +kernel
theorem dX7_layLords_156 : decode cX7_layLords 156 = .ok (.iload_n 2, 1) := by decide +kernel
theorem dX7_layLords_157 : decode cX7_layLords 157 = .ok (.iaload, 1) := by decide +kernel
theorem dX7_layLords_158 : decode cX7_layLords 158 = .ok (.invokestatic 156, 3) := by decide +kernel
theorem dX7_layLords_161 : decode cX7_layLords 161 = .ok (.aload_n 0, 1) := by decide +kernel
theorem dX7_layLords_162 : decode cX7_layLords 162 = .ok (.getfield 50, 3) := by decide +kernel
theorem dX7_layLords_165 : decode cX7_layLords 165 = .ok (.iload_n 1, 1) := by decide +kernel
theorem dX7_layLords_166 : decode cX7_layLords 166 = .ok (.iaload, 1) := by decide +kernel
theorem dX7_layLords_167 : decode cX7_layLords 167 = .ok (.invokestatic 156, 3) := by decide +kernel
theorem dX7_layLords_170 : decode cX7_layLords 170 = .ok (.iconst 1, 1) := by decide +kernel
theorem dX7_layLords_171 : decode cX7_layLords 171 = .ok (.isub, 1) := by decide +kernel
theorem dX7_layLords_172 : decode cX7_layLords 172 = .ok (.if_icmp .ne 7, 3) := by decide +kernel
theorem dX7_layLords_175 : decode cX7_layLords 175 = .ok (.iconst 1, 1) := by decide +kernel
theorem dX7_layLords_176 : decode cX7_layLords 176 = .ok (.goto 4, 3) := by decide +kernel
theorem dX7_layLords_179 : decode cX7_layLords 179 = .ok (.iconst 0, 1) := by decide +kernel
theorem dX7_layLords_180 : decode cX7_layLords 180 = .ok (.istore_n 3, 1) := by decide +kernel
theorem dX7_layLords_181 : decode cX7_layLords 181 = .ok (.aload_n 0, 1) := by decide +kernel
theorem dX7_layLords_182 : decode cX7_layLords 182 = .ok (.getfield 53, 3) := by decide +kernel
theorem dX7_layLords_185 : decode cX7_layLords 185 = .ok (.iload_n 1, 1) := by decide +kernel
theorem dX7_layLords_186 : decode cX7_layLords 186 = .ok (.iload_n 3, 1) := by decide +kernel
theorem dX7_layLords_187 : decode cX7_layLords 187 = .ok (.ifCond .eq 7, 3) := by decide +kernel
theorem dX7_layLords_190 : decode cX7_layLords 190 = .ok (.iload_n 2, 1) := by decide +kernel
theorem dX7_layLords_191 : decode cX7_layLords 191 = .ok (.goto 9, 3) := by decide +kernel
theorem dX7_layLords_194 : decode cX7_layLords 194 = .ok (.aload_n 0, 1) := by decide +kernel
theorem dX7_layLords_195 : decode cX7_layLords 195 = .ok (.getfield 53, 3) := by decide +kernel
theorem dX7_layLords_198 : decode cX7_layLords 198 = .ok (.iload_n 1, 1) := by decide +kernel
theorem dX7_layLords_199 : decode cX7_layLords 199 = .ok (.iaload, 1) := by decide +kernel
theorem dX7_layLords_200 : decode cX7_layLords 200 = .ok (.iastore, 1) := by decide +kernel
theorem dX7_layLords_201 : decode cX7_layLords 201 = .ok (.iinc 2 1, 3) := by decide +kernel
theorem dX7_layLords_204 : decode cX7_layLords 204 = .ok (.goto (-78), 3) := by decide +kernel
theorem dX7_layLords_207 : decode cX7_layLords 207 = .ok (.iinc 1 1, 3) := by decide +kernel
theorem dX7_layLords_210 : decode cX7_layLords 210 = .ok (.goto (-94), 3) := by decide +kernel
theorem dX7_layLords_213 : decode cX7_layLords 213 = .ok (.return_, 1) := by decide +kernel
theorem dX7_isLive_0 : decode cX7_isLive 0 = .ok (.aload_n 0, 1) := by decide +kernel
theorem dX7_isLive_1 : decode cX7_isLive 1 = .ok (.getfield 143, 3) := by decide +kernel
theorem dX7_isLive_4 : decode cX7_isLive 4 = .ok (.iload_n 1, 1) := by decide +kernel
theorem dX7_isLive_5 : decode cX7_isLive 5 = .ok (.iconst 2, 1) := by decide +kernel
theorem dX7_isLive_6 : decode cX7_isLive 6 = .ok (.idiv, 1) := by decide +kernel
theorem dX7_isLive_7 : decode cX7_isLive 7 = .ok (.invokestatic 139, 3) := by decide +kernel
theorem dX7_isLive_10 : decode cX7_isLive 10 = .ok (.ifCond .eq 15, 3) := by decide +kernel
theorem dX7_isLive_13 : decode cX7_isLive 13 = .ok (.aload_n 0, 1) := by decide +kernel
theorem dX7_isLive_14 : decode cX7_isLive 14 = .ok (.iload_n 1, 1) := by decide +kernel
theorem dX7_isLive_15 : decode cX7_isLive 15 = .ok (.invokevirtual 146, 3) := by decide +kernel
theorem dX7_isLive_18 : decode cX7_isLive 18 = .ok (.ifCond .eq 7, 3) := by decide +kernel
theorem dX7_isLive_21 : decode cX7_isLive 21 = .ok (.iconst 1, 1) := by decide +kernel
theorem dX7_isLive_22 : decode cX7_isLive 22 = .ok (.goto 4, 3) := by decide +kernel
theorem dX7_isLive_25 : decode cX7_isLive 25 = .ok (.iconst 0, 1) := by decide +kernel
theorem dX7_isLive_26 : decode cX7_isLive 26 = .ok (.ireturn, 1) := by decide +kernel
theorem dX7_retreats_0 : decode cX7_retreats 0 = .ok (.aload_n 0, 1) := by decide +kernel
theorem dX7_retreats_1 : decode cX7_retreats 1 = .ok (.getfield 47, 3) := by decide +kernel
theorem dX7_retreats_4 : decode cX7_retreats 4 = .ok (.aload_n 0, 1) := by decide +kernel
theorem dX7_retreats_5 : decode cX7_retreats 5 = .ok (.getfield 41, 3) := by decide +kernel
theorem dX7_retreats_8 : decode cX7_retreats 8 = .ok (.iload_n 1, 1) := by decide +kernel
theorem dX7_retreats_9 : decode cX7_retreats 9 = .ok (.iaload, 1) := by decide +kernel
theorem dX7_retreats_10 : decode cX7_retreats 10 = .ok (.iaload, 1) := by decide +kernel
theorem dX7_retreats_11 : decode cX7_retreats 11 = .ok (.aload_n 0, 1) := by decide +kernel
theorem dX7_retreats_12 : decode cX7_retreats 12 = .ok (.getfield 47, 3) := by decide +kernel
theorem dX7_retreats_15 : decode cX7_retreats 15 = .ok (.iload_n 1, 1) := by decide +kernel
theorem dX7_retreats_16 : decode cX7_retreats 16 = .ok (.iconst 2, 1) := by decide +kernel
theorem dX7_retreats_17 : decode cX7_retreats 17 = .ok (.idiv, 1) := by decide +kernel
theorem dX7_retreats_18 : decode cX7_retreats 18 = .ok (.iaload, 1) := by decide +kernel
theorem dX7_retreats_19 : decode cX7_retreats 19 = .ok (.if_icmp .gt 7, 3) := by decide +kernel
theorem dX7_retreats_22 : decode cX7_retreats 22 = .ok (.iconst 1, 1) := by decide +kernel
theorem dX7_retreats_23 : decode cX7_retreats 23 = .ok (.goto 4, 3) := by decide +kernel
theorem dX7_retreats_26 : decode cX7_retreats 26 = .ok (.iconst 0, 1) := by decide +kernel
theorem dX7_retreats_27 : decode cX7_retreats 27 = .ok (.ireturn, 1) := by decide +kernel
theorem dX7_isBack_0 : decode cX7_isBack 0 = .ok (.aload_n 0, 1) := by decide +kernel
theorem dX7_isBack_1 : decode cX7_isBack 1 = .ok (.getfield 50, 3) := by decide +kernel
theorem dX7_isBack_4 : decode cX7_isBack 4 = .ok (.iload_n 1, 1) := by decide +kernel
theorem dX7_isBack_5 : decode cX7_isBack 5 = .ok (.iconst 2, 1) := by decide +kernel
theorem dX7_isBack_6 : decode cX7_isBack 6 = .ok (.idiv, 1) := by decide +kernel
theorem dX7_isBack_7 : decode cX7_isBack 7 = .ok (.iaload, 1) := by decide +kernel
theorem dX7_isBack_8 : decode cX7_isBack 8 = .ok (.aload_n 0, 1) := by decide +kernel
theorem dX7_isBack_9 : decode cX7_isBack 9 = .ok (.getfield 41, 3) := by decide +kernel
theorem dX7_isBack_12 : decode cX7_isBack 12 = .ok (.iload_n 1, 1) := by decide +kernel
theorem dX7_isBack_13 : decode cX7_isBack 13 = .ok (.iaload, 1) := by decide +kernel
theorem dX7_isBack_14 : decode cX7_isBack 14 = .ok (.invokestatic 139, 3) := by decide +kernel
theorem dX7_isBack_17 : decode cX7_isBack 17 = .ok (.ireturn, 1) := by decide +kernel
theorem dX7_layEdges_0 : decode cX7_layEdges 0 = .ok (.aload_n 0, 1) := by decide +kernel
theorem dX7_layEdges_1 : decode cX7_layEdges 1 = .ok (.iconst 0, 1) := by decide +kernel
theorem dX7_layEdges_2 : decode cX7_layEdges 2 = .ok (.putfield 159, 3) := by decide +kernel
theorem dX7_layEdges_5 : decode cX7_layEdges 5 = .ok (.aload_n 0, 1) := by decide +kernel
theorem dX7_layEdges_6 : decode cX7_layEdges 6 = .ok (.iconst 0, 1) := by decide +kernel
theorem dX7_layEdges_7 : decode cX7_layEdges 7 = .ok (.putfield 162, 3) := by decide +kernel
theorem dX7_layEdges_10 : decode cX7_layEdges 10 = .ok (.aload_n 0, 1) := by decide +kernel
theorem dX7_layEdges_11 : decode cX7_layEdges 11 = .ok (.iconst 0, 1) := by decide +kernel
theorem dX7_layEdges_12 : decode cX7_layEdges 12 = .ok (.putfield 165, 3) := by decide +kernel
theorem dX7_layEdges_15 : decode cX7_layEdges 15 = .ok (.aload_n 0, 1) := by decide +kernel
theorem dX7_layEdges_16 : decode cX7_layEdges 16 = .ok (.iconst 0, 1) := by decide +kernel
theorem dX7_layEdges_17 : decode cX7_layEdges 17 = .ok (.putfield 168, 3) := by decide +kernel
theorem dX7_layEdges_20 : decode cX7_layEdges 20 = .ok (.aload_n 0, 1) := by decide +kernel
theorem dX7_layEdges_21 : decode cX7_layEdges 21 = .ok (.iconst 0, 1) := by decide +kernel
theorem dX7_layEdges_22 : decode cX7_layEdges 22 = .ok (.putfield 171, 3) := by decide +kernel
theorem dX7_layEdges_25 : decode cX7_layEdges 25 = .ok (.iconst 0, 1) := by decide +kernel
theorem dX7_layEdges_26 : decode cX7_layEdges 26 = .ok (.istore_n 1, 1) := by decide +kernel
theorem dX7_layEdges_27 : decode cX7_layEdges 27 = .ok (.iconst 0, 1) := by decide +kernel
theorem dX7_layEdges_28 : decode cX7_layEdges 28 = .ok (.istore_n 2, 1) := by decide +kernel
theorem dX7_layEdges_29 : decode cX7_layEdges 29 = .ok (.iload_n 2, 1) := by decide +kernel
theorem dX7_layEdges_30 : decode cX7_layEdges 30 = .ok (.iconst 2, 1) := by decide +kernel
theorem dX7_layEdges_31 : decode cX7_layEdges 31 = .ok (.aload_n 0, 1) := by decide +kernel
theorem dX7_layEdges_32 : decode cX7_layEdges 32 = .ok (.getfield 133, 3) := by decide +kernel
theorem dX7_layEdges_35 : decode cX7_layEdges 35 = .ok (.imul, 1) := by decide +kernel
theorem dX7_layEdges_36 : decode cX7_layEdges 36 = .ok (.if_icmp .ge 123, 3) := by decide +kernel
theorem dX7_layEdges_39 : decode cX7_layEdges 39 = .ok (.aload_n 0, 1) := by decide +kernel
theorem dX7_layEdges_40 : decode cX7_layEdges 40 = .ok (.iload_n 2, 1) := by decide +kernel
theorem dX7_layEdges_41 : decode cX7_layEdges 41 = .ok (.invokevirtual 174, 3) := by decide +kernel
theorem dX7_layEdges_44 : decode cX7_layEdges 44 = .ok (.ifCond .eq 109, 3) := by decide +kernel
theorem dX7_layEdges_47 : decode cX7_layEdges 47 = .ok (.aload_n 0, 1) := by decide +kernel
theorem dX7_layEdges_48 : decode cX7_layEdges 48 = .ok (.getfield 41, 3) := by decide +kernel
theorem dX7_layEdges_51 : decode cX7_layEdges 51 = .ok (.iload_n 2, 1) := by decide +kernel
theorem dX7_layEdges_52 : decode cX7_layEdges 52 = .ok (.iaload, 1) := by decide +kernel
theorem dX7_layEdges_53 : decode cX7_layEdges 53 = .ok (.istore_n 3, 1) := by decide +kernel
theorem dX7_layEdges_54 : decode cX7_layEdges 54 = .ok (.aload_n 0, 1) := by decide +kernel
theorem dX7_layEdges_55 : decode cX7_layEdges 55 = .ok (.dup, 1) := by decide +kernel
theorem dX7_layEdges_56 : decode cX7_layEdges 56 = .ok (.getfield 159, 3) := by decide +kernel
theorem dX7_layEdges_59 : decode cX7_layEdges 59 = .ok (.iconst 1, 1) := by decide +kernel
theorem dX7_layEdges_60 : decode cX7_layEdges 60 = .ok (.iadd, 1) := by decide +kernel
theorem dX7_layEdges_61 : decode cX7_layEdges 61 = .ok (.putfield 159, 3) := by decide +kernel
theorem dX7_layEdges_64 : decode cX7_layEdges 64 = .ok (.aload_n 0, 1) := by decide +kernel
theorem dX7_layEdges_65 : decode cX7_layEdges 65 = .ok (.iload_n 2, 1) := by decide +kernel
theorem dX7_layEdges_66 : decode cX7_layEdges 66 = .ok (.invokevirtual 177, 3) := by decide +kernel
theorem dX7_layEdges_69 : decode cX7_layEdges 69 = .ok (.ifCond .eq 28, 3) := by decide +kernel
theorem dX7_layEdges_72 : decode cX7_layEdges 72 = .ok (.aload_n 0, 1) := by decide +kernel
theorem dX7_layEdges_73 : decode cX7_layEdges 73 = .ok (.dup, 1) := by decide +kernel
theorem dX7_layEdges_74 : decode cX7_layEdges 74 = .ok (.getfield 162, 3) := by decide +kernel
theorem dX7_layEdges_77 : decode cX7_layEdges 77 = .ok (.iconst 1, 1) := by decide +kernel
theorem dX7_layEdges_78 : decode cX7_layEdges 78 = .ok (.iadd, 1) := by decide +kernel
theorem dX7_layEdges_79 : decode cX7_layEdges 79 = .ok (.putfield 162, 3) := by decide +kernel
theorem dX7_layEdges_82 : decode cX7_layEdges 82 = .ok (.aload_n 0, 1) := by decide +kernel
theorem dX7_layEdges_83 : decode cX7_layEdges 83 = .ok (.dup, 1) := by decide +kernel
theorem dX7_layEdges_84 : decode cX7_layEdges 84 = .ok (.getfield 168, 3) := by decide +kernel
theorem dX7_layEdges_87 : decode cX7_layEdges 87 = .ok (.iconst 1, 1) := by decide +kernel
theorem dX7_layEdges_88 : decode cX7_layEdges 88 = .ok (.iload_n 3, 1) := by decide +kernel
theorem dX7_layEdges_89 : decode cX7_layEdges 89 = .ok (.ishl, 1) := by decide +kernel
theorem dX7_layEdges_90 : decode cX7_layEdges 90 = .ok (.ior, 1) := by decide +kernel
theorem dX7_layEdges_91 : decode cX7_layEdges 91 = .ok (.putfield 168, 3) := by decide +kernel
theorem dX7_layEdges_94 : decode cX7_layEdges 94 = .ok (.goto 21, 3) := by decide +kernel
theorem dX7_layEdges_97 : decode cX7_layEdges 97 = .ok (.aload_n 0, 1) := by decide +kernel
theorem dX7_layEdges_98 : decode cX7_layEdges 98 = .ok (.iload_n 2, 1) := by decide +kernel
theorem dX7_layEdges_99 : decode cX7_layEdges 99 = .ok (.invokevirtual 180, 3) := by decide +kernel
theorem dX7_layEdges_102 : decode cX7_layEdges 102 = .ok (.ifCond .eq 13, 3) := by decide +kernel
theorem dX7_layEdges_105 : decode cX7_layEdges 105 = .ok (.aload_n 0, 1) := by decide +kernel
theorem dX7_layEdges_106 : decode cX7_layEdges 106 = .ok (.dup, 1) := by decide +kernel
theorem dX7_layEdges_107 : decode cX7_layEdges 107 = .ok (.getfield 165, 3) := by decide +kernel
theorem dX7_layEdges_110 : decode cX7_layEdges 110 = .ok (.iconst 1, 1) := by decide +kernel
theorem dX7_layEdges_111 : decode cX7_layEdges 111 = .ok (.iadd, 1) := by decide +kernel
theorem dX7_layEdges_112 : decode cX7_layEdges 112 = .ok (.putfield 165, 3) := by decide +kernel
theorem dX7_layEdges_115 : decode cX7_layEdges 115 = .ok (.aload_n 0, 1) := by decide +kernel
theorem dX7_layEdges_116 : decode cX7_layEdges 116 = .ok (.iload_n 2, 1) := by decide +kernel
theorem dX7_layEdges_117 : decode cX7_layEdges 117 = .ok (.invokevirtual 180, 3) := by decide +kernel
theorem dX7_layEdges_120 : decode cX7_layEdges 120 = .ok (.ifCond .ne 33, 3) := by decide +kernel
theorem dX7_layEdges_123 : decode cX7_layEdges 123 = .ok (.aload_n 0, 1) := by decide +kernel
theorem dX7_layEdges_124 : decode cX7_layEdges 124 = .ok (.dup, 1) := by decide +kernel
theorem dX7_layEdges_125 : decode cX7_layEdges 125 = .ok (.getfield 171, 3) := by decide +kernel
theorem dX7_layEdges_128 : decode cX7_layEdges 128 = .ok (.iload_n 1, 1) := by decide +kernel
theorem dX7_layEdges_129 : decode cX7_layEdges 129 = .ok (.iload_n 3, 1) := by decide +kernel
theorem dX7_layEdges_130 : decode cX7_layEdges 130 = .ok (.invokestatic 139, 3) := by decide +kernel
theorem dX7_layEdges_133 : decode cX7_layEdges 133 = .ok (.ifCond .eq 9, 3) := by decide +kernel
theorem dX7_layEdges_136 : decode cX7_layEdges 136 = .ok (.iconst 1, 1) := by decide +kernel
theorem dX7_layEdges_137 : decode cX7_layEdges 137 = .ok (.iload_n 3, 1) := by decide +kernel
theorem dX7_layEdges_138 : decode cX7_layEdges 138 = .ok (.ishl, 1) := by decide +kernel
theorem dX7_layEdges_139 : decode cX7_layEdges 139 = .ok (.goto 4, 3) := by decide +kernel
theorem dX7_layEdges_142 : decode cX7_layEdges 142 = .ok (.iconst 0, 1) := by decide +kernel
theorem dX7_layEdges_143 : decode cX7_layEdges 143 = .ok (.ior, 1) := by decide +kernel
theorem dX7_layEdges_144 : decode cX7_layEdges 144 = .ok (.putfield 171, 3) := by decide +kernel
theorem dX7_layEdges_147 : decode cX7_layEdges 147 = .ok (.iload_n 1, 1) := by decide +kernel
theorem dX7_layEdges_148 : decode cX7_layEdges 148 = .ok (.iconst 1, 1) := by decide +kernel
theorem dX7_layEdges_149 : decode cX7_layEdges 149 = .ok (.iload_n 3, 1) := by decide +kernel
theorem dX7_layEdges_150 : decode cX7_layEdges 150 = .ok (.ishl, 1) := by decide +kernel
theorem dX7_layEdges_151 : decode cX7_layEdges 151 = .ok (.ior, 1) := by decide +kernel
theorem dX7_layEdges_152 : decode cX7_layEdges 152 = .ok (.istore_n 1, 1) := by decide +kernel
theorem dX7_layEdges_153 : decode cX7_layEdges 153 = .ok (.iinc 2 1, 3) := by decide +kernel
theorem dX7_layEdges_156 : decode cX7_layEdges 156 = .ok (.goto (-127), 3) := by decide +kernel
theorem dX7_layEdges_159 : decode cX7_layEdges 159 = .ok (.return_, 1) := by decide +kernel
theorem dX7_lay_0 : decode cX7_lay 0 = .ok (.aload_n 0, 1) := by decide +kernel
theorem dX7_lay_1 : decode cX7_lay 1 = .ok (.invokevirtual 183, 3) := by decide +kernel
theorem dX7_lay_4 : decode cX7_lay 4 = .ok (.aload_n 0, 1) := by decide +kernel
theorem dX7_lay_5 : decode cX7_lay 5 = .ok (.invokevirtual 186, 3) := by decide +kernel
theorem dX7_lay_8 : decode cX7_lay 8 = .ok (.aload_n 0, 1) := by decide +kernel
theorem dX7_lay_9 : decode cX7_lay 9 = .ok (.invokevirtual 189, 3) := by decide +kernel
theorem dX7_lay_12 : decode cX7_lay 12 = .ok (.return_, 1) := by decide +kernel
theorem dX7_layNow_0 : decode cX7_layNow 0 = .ok (.aload_n 0, 1) := by decide +kernel
theorem dX7_layNow_1 : decode cX7_layNow 1 = .ok (.invokevirtual 192, 3) := by decide +kernel
theorem dX7_layNow_4 : decode cX7_layNow 4 = .ok (.aload_n 0, 1) := by decide +kernel
theorem dX7_layNow_5 : decode cX7_layNow 5 = .ok (.invokevirtual 195, 3) := by decide +kernel
theorem dX7_layNow_8 : decode cX7_layNow 8 = .ok (.return_, 1) := by decide +kernel
theorem dX7_dominated_0 : decode cX7_dominated 0 = .ok (.iconst 0, 1) := by decide +kernel
theorem dX7_dominated_1 : decode cX7_dominated 1 = .ok (.istore_n 2, 1) := by decide +kernel
theorem dX7_dominated_2 : decode cX7_dominated 2 = .ok (.iconst 0, 1) := by decide +kernel
theorem dX7_dominated_3 : decode cX7_dominated 3 = .ok (.istore_n 3, 1) := by decide +kernel
theorem dX7_dominated_4 : decode cX7_dominated 4 = .ok (.iload_n 3, 1) := by decide +kernel
theorem dX7_dominated_5 : decode cX7_dominated 5 = .ok (.aload_n 0, 1) := by decide +kernel
theorem dX7_dominated_6 : decode cX7_dominated 6 = .ok (.getfield 121, 3) := by decide +kernel
theorem dX7_dominated_9 : decode cX7_dominated 9 = .ok (.if_icmp .ge 30, 3) := by decide +kernel
theorem dX7_dominated_12 : decode cX7_dominated 12 = .ok (.iload_n 2, 1) := by decide +kernel
theorem dX7_dominated_13 : decode cX7_dominated 13 = .ok (.aload_n 0, 1) := by decide +kernel
theorem dX7_dominated_14 : decode cX7_dominated 14 = .ok (.getfield 50, 3) := by decide +kernel
theorem dX7_dominated_17 : decode cX7_dominated 17 = .ok (.iload_n 3, 1) := by decide +kernel
theorem dX7_dominated_18 : decode cX7_dominated 18 = .ok (.iaload, 1) := by decide +kernel
theorem dX7_dominated_19 : decode cX7_dominated 19 = .ok (.iload_n 1, 1) := by decide +kernel
theorem dX7_dominated_20 : decode cX7_dominated 20 = .ok (.invokestatic 139, 3) := by decide +kernel
theorem dX7_dominated_23 : decode cX7_dominated 23 = .ok (.ifCond .eq 7, 3) := by decide +kernel
theorem dX7_dominated_26 : decode cX7_dominated 26 = .ok (.iconst 1, 1) := by decide +kernel
theorem dX7_dominated_27 : decode cX7_dominated 27 = .ok (.goto 4, 3) := by decide +kernel
theorem dX7_dominated_30 : decode cX7_dominated 30 = .ok (.iconst 0, 1) := by decide +kernel
theorem dX7_dominated_31 : decode cX7_dominated 31 = .ok (.iadd, 1) := by decide +kernel
theorem dX7_dominated_32 : decode cX7_dominated 32 = .ok (.istore_n 2, 1) := by decide +kernel
theorem dX7_dominated_33 : decode cX7_dominated 33 = .ok (.iinc 3 1, 3) := by decide +kernel
theorem dX7_dominated_36 : decode cX7_dominated 36 = .ok (.goto (-32), 3) := by decide +kernel
theorem dX7_dominated_39 : decode cX7_dominated 39 = .ok (.iload_n 2, 1) := by decide +kernel
theorem dX7_dominated_40 : decode cX7_dominated 40 = .ok (.ireturn, 1) := by decide +kernel
theorem dX7_nodeNow_0 : decode cX7_nodeNow 0 = .ok (.iload_n 2, 1) := by decide +kernel
theorem dX7_nodeNow_1 : decode cX7_nodeNow 1 = .ok (.tableswitch 146 0 8 #[51, 58, 58, 71, 93, 100, 117, 134, 140], 51) := by decide +kernel
theorem dX7_nodeNow_52 : decode cX7_nodeNow 52 = .ok (.aload_n 0, 1) := by decide +kernel
theorem dX7_nodeNow_53 : decode cX7_nodeNow 53 = .ok (.getfield 7, 3) := by decide +kernel
theorem dX7_nodeNow_56 : decode cX7_nodeNow 56 = .ok (.iload_n 1, 1) := by decide +kernel
theorem dX7_nodeNow_57 : decode cX7_nodeNow 57 = .ok (.iaload, 1) := by decide +kernel
theorem dX7_nodeNow_58 : decode cX7_nodeNow 58 = .ok (.ireturn, 1) := by decide +kernel
theorem dX7_nodeNow_59 : decode cX7_nodeNow 59 = .ok (.aload_n 0, 1) := by decide +kernel
theorem dX7_nodeNow_60 : decode cX7_nodeNow 60 = .ok (.getfield 13, 3) := by decide +kernel
theorem dX7_nodeNow_63 : decode cX7_nodeNow 63 = .ok (.iconst 2, 1) := by decide +kernel
theorem dX7_nodeNow_64 : decode cX7_nodeNow 64 = .ok (.iload_n 1, 1) := by decide +kernel
theorem dX7_nodeNow_65 : decode cX7_nodeNow 65 = .ok (.imul, 1) := by decide +kernel
theorem dX7_nodeNow_66 : decode cX7_nodeNow 66 = .ok (.iload_n 2, 1) := by decide +kernel
theorem dX7_nodeNow_67 : decode cX7_nodeNow 67 = .ok (.iadd, 1) := by decide +kernel
theorem dX7_nodeNow_68 : decode cX7_nodeNow 68 = .ok (.iconst 1, 1) := by decide +kernel
theorem dX7_nodeNow_69 : decode cX7_nodeNow 69 = .ok (.isub, 1) := by decide +kernel
theorem dX7_nodeNow_70 : decode cX7_nodeNow 70 = .ok (.iaload, 1) := by decide +kernel
theorem dX7_nodeNow_71 : decode cX7_nodeNow 71 = .ok (.ireturn, 1) := by decide +kernel
theorem dX7_nodeNow_72 : decode cX7_nodeNow 72 = .ok (.aload_n 0, 1) := by decide +kernel
theorem dX7_nodeNow_73 : decode cX7_nodeNow 73 = .ok (.getfield 143, 3) := by decide +kernel
theorem dX7_nodeNow_76 : decode cX7_nodeNow 76 = .ok (.iload_n 1, 1) := by decide +kernel
theorem dX7_nodeNow_77 : decode cX7_nodeNow 77 = .ok (.invokestatic 139, 3) := by decide +kernel
theorem dX7_nodeNow_80 : decode cX7_nodeNow 80 = .ok (.ifCond .eq 12, 3) := by decide +kernel
theorem dX7_nodeNow_83 : decode cX7_nodeNow 83 = .ok (.aload_n 0, 1) := by decide +kernel
theorem dX7_nodeNow_84 : decode cX7_nodeNow 84 = .ok (.getfield 47, 3) := by decide +kernel
theorem dX7_nodeNow_87 : decode cX7_nodeNow 87 = .ok (.iload_n 1, 1) := by decide +kernel
theorem dX7_nodeNow_88 : decode cX7_nodeNow 88 = .ok (.iaload, 1) := by decide +kernel
theorem dX7_nodeNow_89 : decode cX7_nodeNow 89 = .ok (.goto 4, 3) := by decide +kernel
theorem dX7_nodeNow_92 : decode cX7_nodeNow 92 = .ok (.iconst (-1), 1) := by decide +kernel
theorem dX7_nodeNow_93 : decode cX7_nodeNow 93 = .ok (.ireturn, 1) := by decide +kernel
theorem dX7_nodeNow_94 : decode cX7_nodeNow 94 = .ok (.aload_n 0, 1) := by decide +kernel
theorem dX7_nodeNow_95 : decode cX7_nodeNow 95 = .ok (.getfield 53, 3) := by decide +kernel
theorem dX7_nodeNow_98 : decode cX7_nodeNow 98 = .ok (.iload_n 1, 1) := by decide +kernel
theorem dX7_nodeNow_99 : decode cX7_nodeNow 99 = .ok (.iaload, 1) := by decide +kernel
theorem dX7_nodeNow_100 : decode cX7_nodeNow 100 = .ok (.ireturn, 1) := by decide +kernel
theorem dX7_nodeNow_101 : decode cX7_nodeNow 101 = .ok (.aload_n 0, 1) := by decide +kernel
theorem dX7_nodeNow_102 : decode cX7_nodeNow 102 = .ok (.getfield 168, 3) := by decide +kernel
theorem dX7_nodeNow_105 : decode cX7_nodeNow 105 = .ok (.iload_n 1, 1) := by decide +kernel
theorem dX7_nodeNow_106 : decode cX7_nodeNow 106 = .ok (.invokestatic 139, 3) := by decide +kernel
theorem dX7_nodeNow_109 : decode cX7_nodeNow 109 = .ok (.ifCond .eq 7, 3) := by decide +kernel
theorem dX7_nodeNow_112 : decode cX7_nodeNow 112 = .ok (.iconst 1, 1) := by decide +kernel
theorem dX7_nodeNow_113 : decode cX7_nodeNow 113 = .ok (.goto 4, 3) := by decide +kernel
theorem dX7_nodeNow_116 : decode cX7_nodeNow 116 = .ok (.iconst 0, 1) := by decide +kernel
theorem dX7_nodeNow_117 : decode cX7_nodeNow 117 = .ok (.ireturn, 1) := by decide +kernel
theorem dX7_nodeNow_118 : decode cX7_nodeNow 118 = .ok (.aload_n 0, 1) := by decide +kernel
theorem dX7_nodeNow_119 : decode cX7_nodeNow 119 = .ok (.getfield 171, 3) := by decide +kernel
theorem dX7_nodeNow_122 : decode cX7_nodeNow 122 = .ok (.iload_n 1, 1) := by decide +kernel
theorem dX7_nodeNow_123 : decode cX7_nodeNow 123 = .ok (.invokestatic 139, 3) := by decide +kernel
theorem dX7_nodeNow_126 : decode cX7_nodeNow 126 = .ok (.ifCond .eq 7, 3) := by decide +kernel
theorem dX7_nodeNow_129 : decode cX7_nodeNow 129 = .ok (.iconst 1, 1) := by decide +kernel
theorem dX7_nodeNow_130 : decode cX7_nodeNow 130 = .ok (.goto 4, 3) := by decide +kernel
theorem dX7_nodeNow_133 : decode cX7_nodeNow 133 = .ok (.iconst 0, 1) := by decide +kernel
theorem dX7_nodeNow_134 : decode cX7_nodeNow 134 = .ok (.ireturn, 1) := by decide +kernel
theorem dX7_nodeNow_135 : decode cX7_nodeNow 135 = .ok (.aload_n 0, 1) := by decide +kernel
theorem dX7_nodeNow_136 : decode cX7_nodeNow 136 = .ok (.iload_n 1, 1) := by decide +kernel
theorem dX7_nodeNow_137 : decode cX7_nodeNow 137 = .ok (.invokevirtual 198, 3) := by decide +kernel
theorem dX7_nodeNow_140 : decode cX7_nodeNow 140 = .ok (.ireturn, 1) := by decide +kernel
theorem dX7_nodeNow_141 : decode cX7_nodeNow 141 = .ok (.aload_n 0, 1) := by decide +kernel
theorem dX7_nodeNow_142 : decode cX7_nodeNow 142 = .ok (.iload_n 1, 1) := by decide +kernel
theorem dX7_nodeNow_143 : decode cX7_nodeNow 143 = .ok (.invokevirtual 201, 3) := by decide +kernel
theorem dX7_nodeNow_146 : decode cX7_nodeNow 146 = .ok (.ireturn, 1) := by decide +kernel
theorem dX7_nodeNow_147 : decode cX7_nodeNow 147 = .ok (.aload_n 0, 1) := by decide +kernel
theorem dX7_nodeNow_148 : decode cX7_nodeNow 148 = .ok (.iload_n 1, 1) := by decide +kernel
theorem dX7_nodeNow_149 : decode cX7_nodeNow 149 = .ok (.invokevirtual 204, 3) := by decide +kernel
theorem dX7_nodeNow_152 : decode cX7_nodeNow 152 = .ok (.ireturn, 1) := by decide +kernel
theorem dX7_node_0 : decode cX7_node 0 = .ok (.aload_n 0, 1) := by decide +kernel
theorem dX7_node_1 : decode cX7_node 1 = .ok (.iload_n 1, 1) := by decide +kernel
theorem dX7_node_2 : decode cX7_node 2 = .ok (.invokevirtual 207, 3) := by decide +kernel
theorem dX7_node_5 : decode cX7_node 5 = .ok (.ifCond .ne 6, 3) := by decide +kernel
theorem dX7_node_8 : decode cX7_node 8 = .ok (.bipush (-101), 2) := by decide +kernel
theorem dX7_node_10 : decode cX7_node 10 = .ok (.ireturn, 1) := by decide +kernel
theorem dX7_node_11 : decode cX7_node 11 = .ok (.iload_n 2, 1) := by decide +kernel
theorem dX7_node_12 : decode cX7_node 12 = .ok (.iconst 0, 1) := by decide +kernel
theorem dX7_node_13 : decode cX7_node 13 = .ok (.bipush 9, 2) := by decide +kernel
theorem dX7_node_15 : decode cX7_node 15 = .ok (.invokestatic 89, 3) := by decide +kernel
theorem dX7_node_18 : decode cX7_node 18 = .ok (.ifCond .ne 6, 3) := by decide +kernel
theorem dX7_node_21 : decode cX7_node 21 = .ok (.bipush (-102), 2) := by decide +kernel
theorem dX7_node_23 : decode cX7_node 23 = .ok (.ireturn, 1) := by decide +kernel
theorem dX7_node_24 : decode cX7_node 24 = .ok (.aload_n 0, 1) := by decide +kernel
theorem dX7_node_25 : decode cX7_node 25 = .ok (.invokevirtual 210, 3) := by decide +kernel
theorem dX7_node_28 : decode cX7_node 28 = .ok (.aload_n 0, 1) := by decide +kernel
theorem dX7_node_29 : decode cX7_node 29 = .ok (.iload_n 1, 1) := by decide +kernel
theorem dX7_node_30 : decode cX7_node 30 = .ok (.iload_n 2, 1) := by decide +kernel
theorem dX7_node_31 : decode cX7_node 31 = .ok (.invokevirtual 213, 3) := by decide +kernel
theorem dX7_node_34 : decode cX7_node 34 = .ok (.ireturn, 1) := by decide +kernel
theorem dX7_as_0 : decode cX7_as 0 = .ok (.aload_n 0, 1) := by decide +kernel
theorem dX7_as_1 : decode cX7_as 1 = .ok (.iload_n 1, 1) := by decide +kernel
theorem dX7_as_2 : decode cX7_as 2 = .ok (.invokevirtual 207, 3) := by decide +kernel
theorem dX7_as_5 : decode cX7_as 5 = .ok (.ifCond .ne 6, 3) := by decide +kernel
theorem dX7_as_8 : decode cX7_as 8 = .ok (.bipush (-101), 2) := by decide +kernel
theorem dX7_as_10 : decode cX7_as 10 = .ok (.ireturn, 1) := by decide +kernel
theorem dX7_as_11 : decode cX7_as 11 = .ok (.iload_n 2, 1) := by decide +kernel
theorem dX7_as_12 : decode cX7_as 12 = .ok (.iconst 0, 1) := by decide +kernel
theorem dX7_as_13 : decode cX7_as 13 = .ok (.iconst 4, 1) := by decide +kernel
theorem dX7_as_14 : decode cX7_as 14 = .ok (.invokestatic 89, 3) := by decide +kernel
theorem dX7_as_17 : decode cX7_as 17 = .ok (.ifCond .ne 6, 3) := by decide +kernel
theorem dX7_as_20 : decode cX7_as 20 = .ok (.bipush (-102), 2) := by decide +kernel
theorem dX7_as_22 : decode cX7_as 22 = .ok (.ireturn, 1) := by decide +kernel
theorem dX7_as_23 : decode cX7_as 23 = .ok (.aload_n 0, 1) := by decide +kernel
theorem dX7_as_24 : decode cX7_as 24 = .ok (.getfield 7, 3) := by decide +kernel
theorem dX7_as_27 : decode cX7_as 27 = .ok (.iload_n 1, 1) := by decide +kernel
theorem dX7_as_28 : decode cX7_as 28 = .ok (.iaload, 1) := by decide +kernel
theorem dX7_as_29 : decode cX7_as 29 = .ok (.istore_n 3, 1) := by decide +kernel
theorem dX7_as_30 : decode cX7_as 30 = .ok (.iload_n 2, 1) := by decide +kernel
theorem dX7_as_31 : decode cX7_as 31 = .ok (.ifCond .eq 18, 3) := by decide +kernel
theorem dX7_as_34 : decode cX7_as 34 = .ok (.iload_n 3, 1) := by decide +kernel
theorem dX7_as_35 : decode cX7_as 35 = .ok (.iload_n 2, 1) := by decide +kernel
theorem dX7_as_36 : decode cX7_as 36 = .ok (.if_icmp .eq 13, 3) := by decide +kernel
theorem dX7_as_39 : decode cX7_as 39 = .ok (.iload_n 2, 1) := by decide +kernel
theorem dX7_as_40 : decode cX7_as 40 = .ok (.iconst 3, 1) := by decide +kernel
theorem dX7_as_41 : decode cX7_as 41 = .ok (.if_icmp .ne 12, 3) := by decide +kernel
theorem dX7_as_44 : decode cX7_as 44 = .ok (.iload_n 3, 1) := by decide +kernel
theorem dX7_as_45 : decode cX7_as 45 = .ok (.iconst 4, 1) := by decide +kernel
theorem dX7_as_46 : decode cX7_as 46 = .ok (.if_icmp .ne 7, 3) := by decide +kernel
theorem dX7_as_49 : decode cX7_as 49 = .ok (.iload_n 1, 1) := by decide +kernel
theorem dX7_as_50 : decode cX7_as 50 = .ok (.goto 4, 3) := by decide +kernel
theorem dX7_as_53 : decode cX7_as 53 = .ok (.iconst (-1), 1) := by decide +kernel
theorem dX7_as_54 : decode cX7_as 54 = .ok (.ireturn, 1) := by decide +kernel
theorem dX7_dominates_0 : decode cX7_dominates 0 = .ok (.aload_n 0, 1) := by decide +kernel
theorem dX7_dominates_1 : decode cX7_dominates 1 = .ok (.iload_n 1, 1) := by decide +kernel
theorem dX7_dominates_2 : decode cX7_dominates 2 = .ok (.invokevirtual 207, 3) := by decide +kernel
theorem dX7_dominates_5 : decode cX7_dominates 5 = .ok (.ifCond .eq 11, 3) := by decide +kernel
theorem dX7_dominates_8 : decode cX7_dominates 8 = .ok (.aload_n 0, 1) := by decide +kernel
theorem dX7_dominates_9 : decode cX7_dominates 9 = .ok (.iload_n 2, 1) := by decide +kernel
theorem dX7_dominates_10 : decode cX7_dominates 10 = .ok (.invokevirtual 207, 3) := by decide +kernel
theorem dX7_dominates_13 : decode cX7_dominates 13 = .ok (.ifCond .ne 6, 3) := by decide +kernel
theorem dX7_dominates_16 : decode cX7_dominates 16 = .ok (.bipush (-101), 2) := by decide +kernel
theorem dX7_dominates_18 : decode cX7_dominates 18 = .ok (.ireturn, 1) := by decide +kernel
theorem dX7_dominates_19 : decode cX7_dominates 19 = .ok (.aload_n 0, 1) := by decide +kernel
theorem dX7_dominates_20 : decode cX7_dominates 20 = .ok (.invokevirtual 210, 3) := by decide +kernel
theorem dX7_dominates_23 : decode cX7_dominates 23 = .ok (.aload_n 0, 1) := by decide +kernel
theorem dX7_dominates_24 : decode cX7_dominates 24 = .ok (.getfield 50, 3) := by decide +kernel
theorem dX7_dominates_27 : decode cX7_dominates 27 = .ok (.iload_n 2, 1) := by decide +kernel
theorem dX7_dominates_28 : decode cX7_dominates 28 = .ok (.iaload, 1) := by decide +kernel
theorem dX7_dominates_29 : decode cX7_dominates 29 = .ok (.iload_n 1, 1) := by decide +kernel
theorem dX7_dominates_30 : decode cX7_dominates 30 = .ok (.invokestatic 139, 3) := by decide +kernel
theorem dX7_dominates_33 : decode cX7_dominates 33 = .ok (.ifCond .eq 7, 3) := by decide +kernel
theorem dX7_dominates_36 : decode cX7_dominates 36 = .ok (.iconst 1, 1) := by decide +kernel
theorem dX7_dominates_37 : decode cX7_dominates 37 = .ok (.goto 4, 3) := by decide +kernel
theorem dX7_dominates_40 : decode cX7_dominates 40 = .ok (.iconst 0, 1) := by decide +kernel
theorem dX7_dominates_41 : decode cX7_dominates 41 = .ok (.ireturn, 1) := by decide +kernel
theorem dX7_edgeNow_0 : decode cX7_edgeNow 0 = .ok (.aload_n 0, 1) := by decide +kernel
theorem dX7_edgeNow_1 : decode cX7_edgeNow 1 = .ok (.iload_n 1, 1) := by decide +kernel
theorem dX7_edgeNow_2 : decode cX7_edgeNow 2 = .ok (.invokevirtual 174, 3) := by decide +kernel
theorem dX7_edgeNow_5 : decode cX7_edgeNow 5 = .ok (.ifCond .ne 7, 3) := by decide +kernel
theorem dX7_edgeNow_8 : decode cX7_edgeNow 8 = .ok (.iconst (-1), 1) := by decide +kernel
theorem dX7_edgeNow_9 : decode cX7_edgeNow 9 = .ok (.goto 28, 3) := by decide +kernel
theorem dX7_edgeNow_12 : decode cX7_edgeNow 12 = .ok (.aload_n 0, 1) := by decide +kernel
theorem dX7_edgeNow_13 : decode cX7_edgeNow 13 = .ok (.iload_n 1, 1) := by decide +kernel
theorem dX7_edgeNow_14 : decode cX7_edgeNow 14 = .ok (.invokevirtual 177, 3) := by decide +kernel
theorem dX7_edgeNow_17 : decode cX7_edgeNow 17 = .ok (.ifCond .eq 7, 3) := by decide +kernel
theorem dX7_edgeNow_20 : decode cX7_edgeNow 20 = .ok (.iconst 1, 1) := by decide +kernel
theorem dX7_edgeNow_21 : decode cX7_edgeNow 21 = .ok (.goto 16, 3) := by decide +kernel
theorem dX7_edgeNow_24 : decode cX7_edgeNow 24 = .ok (.aload_n 0, 1) := by decide +kernel
theorem dX7_edgeNow_25 : decode cX7_edgeNow 25 = .ok (.iload_n 1, 1) := by decide +kernel
theorem dX7_edgeNow_26 : decode cX7_edgeNow 26 = .ok (.invokevirtual 180, 3) := by decide +kernel
theorem dX7_edgeNow_29 : decode cX7_edgeNow 29 = .ok (.ifCond .eq 7, 3) := by decide +kernel
theorem dX7_edgeNow_32 : decode cX7_edgeNow 32 = .ok (.iconst 2, 1) := by decide +kernel
theorem dX7_edgeNow_33 : decode cX7_edgeNow 33 = .ok (.goto 4, 3) := by decide +kernel
theorem dX7_edgeNow_36 : decode cX7_edgeNow 36 = .ok (.iconst 0, 1) := by decide +kernel
theorem dX7_edgeNow_37 : decode cX7_edgeNow 37 = .ok (.ireturn, 1) := by decide +kernel
theorem dX7_edge_0 : decode cX7_edge 0 = .ok (.aload_n 0, 1) := by decide +kernel
theorem dX7_edge_1 : decode cX7_edge 1 = .ok (.iload_n 1, 1) := by decide +kernel
theorem dX7_edge_2 : decode cX7_edge 2 = .ok (.invokevirtual 207, 3) := by decide +kernel
theorem dX7_edge_5 : decode cX7_edge 5 = .ok (.ifCond .ne 6, 3) := by decide +kernel
theorem dX7_edge_8 : decode cX7_edge 8 = .ok (.bipush (-101), 2) := by decide +kernel
theorem dX7_edge_10 : decode cX7_edge 10 = .ok (.ireturn, 1) := by decide +kernel
theorem dX7_edge_11 : decode cX7_edge 11 = .ok (.iload_n 2, 1) := by decide +kernel
theorem dX7_edge_12 : decode cX7_edge 12 = .ok (.iconst 0, 1) := by decide +kernel
theorem dX7_edge_13 : decode cX7_edge 13 = .ok (.iconst 1, 1) := by decide +kernel
theorem dX7_edge_14 : decode cX7_edge 14 = .ok (.invokestatic 89, 3) := by decide +kernel
theorem dX7_edge_17 : decode cX7_edge 17 = .ok (.ifCond .ne 6, 3) := by decide +kernel
theorem dX7_edge_20 : decode cX7_edge 20 = .ok (.bipush (-102), 2) := by decide +kernel
theorem dX7_edge_22 : decode cX7_edge 22 = .ok (.ireturn, 1) := by decide +kernel
theorem dX7_edge_23 : decode cX7_edge 23 = .ok (.aload_n 0, 1) := by decide +kernel
theorem dX7_edge_24 : decode cX7_edge 24 = .ok (.invokevirtual 210, 3) := by decide +kernel
theorem dX7_edge_27 : decode cX7_edge 27 = .ok (.aload_n 0, 1) := by decide +kernel
theorem dX7_edge_28 : decode cX7_edge 28 = .ok (.iconst 2, 1) := by decide +kernel
theorem dX7_edge_29 : decode cX7_edge 29 = .ok (.iload_n 1, 1) := by decide +kernel
theorem dX7_edge_30 : decode cX7_edge 30 = .ok (.imul, 1) := by decide +kernel
theorem dX7_edge_31 : decode cX7_edge 31 = .ok (.iload_n 2, 1) := by decide +kernel
theorem dX7_edge_32 : decode cX7_edge 32 = .ok (.iadd, 1) := by decide +kernel
theorem dX7_edge_33 : decode cX7_edge 33 = .ok (.invokevirtual 217, 3) := by decide +kernel
theorem dX7_edge_36 : decode cX7_edge 36 = .ok (.ireturn, 1) := by decide +kernel
theorem dX7_aim_0 : decode cX7_aim 0 = .ok (.aload_n 0, 1) := by decide +kernel
theorem dX7_aim_1 : decode cX7_aim 1 = .ok (.iload_n 1, 1) := by decide +kernel
theorem dX7_aim_2 : decode cX7_aim 2 = .ok (.invokevirtual 207, 3) := by decide +kernel
theorem dX7_aim_5 : decode cX7_aim 5 = .ok (.ifCond .eq 11, 3) := by decide +kernel
theorem dX7_aim_8 : decode cX7_aim 8 = .ok (.aload_n 0, 1) := by decide +kernel
theorem dX7_aim_9 : decode cX7_aim 9 = .ok (.iload_n 3, 1) := by decide +kernel
theorem dX7_aim_10 : decode cX7_aim 10 = .ok (.invokevirtual 207, 3) := by decide +kernel
theorem dX7_aim_13 : decode cX7_aim 13 = .ok (.ifCond .ne 6, 3) := by decide +kernel
theorem dX7_aim_16 : decode cX7_aim 16 = .ok (.bipush (-101), 2) := by decide +kernel
theorem dX7_aim_18 : decode cX7_aim 18 = .ok (.ireturn, 1) := by decide +kernel
theorem dX7_aim_19 : decode cX7_aim 19 = .ok (.iload_n 2, 1) := by decide +kernel
theorem dX7_aim_20 : decode cX7_aim 20 = .ok (.iconst 0, 1) := by decide +kernel
theorem dX7_aim_21 : decode cX7_aim 21 = .ok (.iconst 1, 1) := by decide +kernel
theorem dX7_aim_22 : decode cX7_aim 22 = .ok (.invokestatic 89, 3) := by decide +kernel
theorem dX7_aim_25 : decode cX7_aim 25 = .ok (.ifCond .ne 6, 3) := by decide +kernel
theorem dX7_aim_28 : decode cX7_aim 28 = .ok (.bipush (-102), 2) := by decide +kernel
theorem dX7_aim_30 : decode cX7_aim 30 = .ok (.ireturn, 1) := by decide +kernel
theorem dX7_aim_31 : decode cX7_aim 31 = .ok (.aload_n 0, 1) := by decide +kernel
theorem dX7_aim_32 : decode cX7_aim 32 = .ok (.getfield 13, 3) := by decide +kernel
theorem dX7_aim_35 : decode cX7_aim 35 = .ok (.iconst 2, 1) := by decide +kernel
theorem dX7_aim_36 : decode cX7_aim 36 = .ok (.iload_n 1, 1) := by decide +kernel
theorem dX7_aim_37 : decode cX7_aim 37 = .ok (.imul, 1) := by decide +kernel
theorem dX7_aim_38 : decode cX7_aim 38 = .ok (.iload_n 2, 1) := by decide +kernel
theorem dX7_aim_39 : decode cX7_aim 39 = .ok (.iadd, 1) := by decide +kernel
theorem dX7_aim_40 : decode cX7_aim 40 = .ok (.iaload, 1) := by decide +kernel
theorem dX7_aim_41 : decode cX7_aim 41 = .ok (.istore 4, 2) := by decide +kernel
theorem dX7_aim_43 : decode cX7_aim 43 = .ok (.aload_n 0, 1) := by decide +kernel
theorem dX7_aim_44 : decode cX7_aim 44 = .ok (.getfield 13, 3) := by decide +kernel
theorem dX7_aim_47 : decode cX7_aim 47 = .ok (.iconst 2, 1) := by decide +kernel
theorem dX7_aim_48 : decode cX7_aim 48 = .ok (.iload_n 1, 1) := by decide +kernel
theorem dX7_aim_49 : decode cX7_aim 49 = .ok (.imul, 1) := by decide +kernel
theorem dX7_aim_50 : decode cX7_aim 50 = .ok (.iload_n 2, 1) := by decide +kernel
theorem dX7_aim_51 : decode cX7_aim 51 = .ok (.iadd, 1) := by decide +kernel
theorem dX7_aim_52 : decode cX7_aim 52 = .ok (.iload_n 3, 1) := by decide +kernel
theorem dX7_aim_53 : decode cX7_aim 53 = .ok (.iastore, 1) := by decide +kernel
theorem dX7_aim_54 : decode cX7_aim 54 = .ok (.iload 4, 2) := by decide +kernel
theorem dX7_aim_56 : decode cX7_aim 56 = .ok (.ireturn, 1) := by decide +kernel
theorem dX7_be_0 : decode cX7_be 0 = .ok (.aload_n 0, 1) := by decide +kernel
theorem dX7_be_1 : decode cX7_be 1 = .ok (.iload_n 1, 1) := by decide +kernel
theorem dX7_be_2 : decode cX7_be 2 = .ok (.invokevirtual 207, 3) := by decide +kernel
theorem dX7_be_5 : decode cX7_be 5 = .ok (.ifCond .ne 6, 3) := by decide +kernel
theorem dX7_be_8 : decode cX7_be 8 = .ok (.bipush (-101), 2) := by decide +kernel
theorem dX7_be_10 : decode cX7_be 10 = .ok (.ireturn, 1) := by decide +kernel
theorem dX7_be_11 : decode cX7_be 11 = .ok (.iload_n 2, 1) := by decide +kernel
theorem dX7_be_12 : decode cX7_be 12 = .ok (.iconst 0, 1) := by decide +kernel
theorem dX7_be_13 : decode cX7_be 13 = .ok (.iconst 4, 1) := by decide +kernel
theorem dX7_be_14 : decode cX7_be 14 = .ok (.invokestatic 89, 3) := by decide +kernel
theorem dX7_be_17 : decode cX7_be 17 = .ok (.ifCond .ne 6, 3) := by decide +kernel
theorem dX7_be_20 : decode cX7_be 20 = .ok (.bipush (-102), 2) := by decide +kernel
theorem dX7_be_22 : decode cX7_be 22 = .ok (.ireturn, 1) := by decide +kernel
theorem dX7_be_23 : decode cX7_be 23 = .ok (.aload_n 0, 1) := by decide +kernel
theorem dX7_be_24 : decode cX7_be 24 = .ok (.getfield 7, 3) := by decide +kernel
theorem dX7_be_27 : decode cX7_be 27 = .ok (.iload_n 1, 1) := by decide +kernel
theorem dX7_be_28 : decode cX7_be 28 = .ok (.iaload, 1) := by decide +kernel
theorem dX7_be_29 : decode cX7_be 29 = .ok (.istore_n 3, 1) := by decide +kernel
theorem dX7_be_30 : decode cX7_be 30 = .ok (.aload_n 0, 1) := by decide +kernel
theorem dX7_be_31 : decode cX7_be 31 = .ok (.getfield 7, 3) := by decide +kernel
theorem dX7_be_34 : decode cX7_be 34 = .ok (.iload_n 1, 1) := by decide +kernel
theorem dX7_be_35 : decode cX7_be 35 = .ok (.iload_n 2, 1) := by decide +kernel
theorem dX7_be_36 : decode cX7_be 36 = .ok (.iastore, 1) := by decide +kernel
theorem dX7_be_37 : decode cX7_be 37 = .ok (.iload_n 3, 1) := by decide +kernel
theorem dX7_be_38 : decode cX7_be 38 = .ok (.ireturn, 1) := by decide +kernel
theorem dX7_endBy_0 : decode cX7_endBy 0 = .ok (.iload_n 0, 1) := by decide +kernel
theorem dX7_endBy_1 : decode cX7_endBy 1 = .ok (.tableswitch 51 1 4 #[31, 51, 33, 39], 31) := by decide +kernel
theorem dX7_endBy_32 : decode cX7_endBy 32 = .ok (.iload_n 2, 1) := by decide +kernel
theorem dX7_endBy_33 : decode cX7_endBy 33 = .ok (.ireturn, 1) := by decide +kernel
theorem dX7_endBy_34 : decode cX7_endBy 34 = .ok (.iload_n 1, 1) := by decide +kernel
theorem dX7_endBy_35 : decode cX7_endBy 35 = .ok (.iconst 1, 1) := by decide +kernel
theorem dX7_endBy_36 : decode cX7_endBy 36 = .ok (.iadd, 1) := by decide +kernel
theorem dX7_endBy_37 : decode cX7_endBy 37 = .ok (.iconst 2, 1) := by decide +kernel
theorem dX7_endBy_38 : decode cX7_endBy 38 = .ok (.irem, 1) := by decide +kernel
theorem dX7_endBy_39 : decode cX7_endBy 39 = .ok (.ireturn, 1) := by decide +kernel
theorem dX7_endBy_40 : decode cX7_endBy 40 = .ok (.iload_n 1, 1) := by decide +kernel
theorem dX7_endBy_41 : decode cX7_endBy 41 = .ok (.iconst 3, 1) := by decide +kernel
theorem dX7_endBy_42 : decode cX7_endBy 42 = .ok (.irem, 1) := by decide +kernel
theorem dX7_endBy_43 : decode cX7_endBy 43 = .ok (.ifCond .ne 7, 3) := by decide +kernel
theorem dX7_endBy_46 : decode cX7_endBy 46 = .ok (.iconst 1, 1) := by decide +kernel
theorem dX7_endBy_47 : decode cX7_endBy 47 = .ok (.goto 4, 3) := by decide +kernel
theorem dX7_endBy_50 : decode cX7_endBy 50 = .ok (.iconst 0, 1) := by decide +kernel
theorem dX7_endBy_51 : decode cX7_endBy 51 = .ok (.ireturn, 1) := by decide +kernel
theorem dX7_endBy_52 : decode cX7_endBy 52 = .ok (.iconst 0, 1) := by decide +kernel
theorem dX7_endBy_53 : decode cX7_endBy 53 = .ok (.ireturn, 1) := by decide +kernel
theorem dX7_walkNow_0 : decode cX7_walkNow 0 = .ok (.iconst 0, 1) := by decide +kernel
theorem dX7_walkNow_1 : decode cX7_walkNow 1 = .ok (.istore_n 2, 1) := by decide +kernel
theorem dX7_walkNow_2 : decode cX7_walkNow 2 = .ok (.iload_n 2, 1) := by decide +kernel
theorem dX7_walkNow_3 : decode cX7_walkNow 3 = .ok (.bipush 8, 2) := by decide +kernel
theorem dX7_walkNow_5 : decode cX7_walkNow 5 = .ok (.if_icmp .ge 16, 3) := by decide +kernel
theorem dX7_walkNow_8 : decode cX7_walkNow 8 = .ok (.aload_n 0, 1) := by decide +kernel
theorem dX7_walkNow_9 : decode cX7_walkNow 9 = .ok (.getfield 62, 3) := by decide +kernel
theorem dX7_walkNow_12 : decode cX7_walkNow 12 = .ok (.iload_n 2, 1) := by decide +kernel
theorem dX7_walkNow_13 : decode cX7_walkNow 13 = .ok (.iconst 0, 1) := by decide +kernel
theorem dX7_walkNow_14 : decode cX7_walkNow 14 = .ok (.iastore, 1) := by decide +kernel
theorem dX7_walkNow_15 : decode cX7_walkNow 15 = .ok (.iinc 2 1, 3) := by decide +kernel
theorem dX7_walkNow_18 : decode cX7_walkNow 18 = .ok (.goto (-16), 3) := by decide +kernel
theorem dX7_walkNow_21 : decode cX7_walkNow 21 = .ok (.aload_n 0, 1) := by decide +kernel
theorem dX7_walkNow_22 : decode cX7_walkNow 22 = .ok (.iconst 0, 1) := by decide +kernel
theorem dX7_walkNow_23 : decode cX7_walkNow 23 = .ok (.putfield 124, 3) := by decide +kernel
theorem dX7_walkNow_26 : decode cX7_walkNow 26 = .ok (.iconst 0, 1) := by decide +kernel
theorem dX7_walkNow_27 : decode cX7_walkNow 27 = .ok (.istore_n 2, 1) := by decide +kernel
theorem dX7_walkNow_28 : decode cX7_walkNow 28 = .ok (.iload_n 1, 1) := by decide +kernel
theorem dX7_walkNow_29 : decode cX7_walkNow 29 = .ok (.istore_n 3, 1) := by decide +kernel
theorem dX7_walkNow_30 : decode cX7_walkNow 30 = .ok (.iconst 1, 1) := by decide +kernel
theorem dX7_walkNow_31 : decode cX7_walkNow 31 = .ok (.istore 4, 2) := by decide +kernel
theorem dX7_walkNow_33 : decode cX7_walkNow 33 = .ok (.iload 4, 2) := by decide +kernel
theorem dX7_walkNow_35 : decode cX7_walkNow 35 = .ok (.ifCond .eq 112, 3) := by decide +kernel
theorem dX7_walkNow_38 : decode cX7_walkNow 38 = .ok (.aload_n 0, 1) := by decide +kernel
theorem dX7_walkNow_39 : decode cX7_walkNow 39 = .ok (.getfield 16, 3) := by decide +kernel
theorem dX7_walkNow_42 : decode cX7_walkNow 42 = .ok (.aload_n 0, 1) := by decide +kernel
theorem dX7_walkNow_43 : decode cX7_walkNow 43 = .ok (.getfield 124, 3) := by decide +kernel
theorem dX7_walkNow_46 : decode cX7_walkNow 46 = .ok (.iload_n 2, 1) := by decide +kernel
theorem dX7_walkNow_47 : decode cX7_walkNow 47 = .ok (.iastore, 1) := by decide +kernel
theorem dX7_walkNow_48 : decode cX7_walkNow 48 = .ok (.aload_n 0, 1) := by decide +kernel
theorem dX7_walkNow_49 : decode cX7_walkNow 49 = .ok (.dup, 1) := by decide +kernel
theorem dX7_walkNow_50 : decode cX7_walkNow 50 = .ok (.getfield 124, 3) := by decide +kernel
theorem dX7_walkNow_53 : decode cX7_walkNow 53 = .ok (.iconst 1, 1) := by decide +kernel
theorem dX7_walkNow_54 : decode cX7_walkNow 54 = .ok (.iadd, 1) := by decide +kernel
theorem dX7_walkNow_55 : decode cX7_walkNow 55 = .ok (.putfield 124, 3) := by decide +kernel
theorem dX7_walkNow_58 : decode cX7_walkNow 58 = .ok (.aload_n 0, 1) := by decide +kernel
theorem dX7_walkNow_59 : decode cX7_walkNow 59 = .ok (.getfield 62, 3) := by decide +kernel
theorem dX7_walkNow_62 : decode cX7_walkNow 62 = .ok (.iload_n 2, 1) := by decide +kernel
theorem dX7_walkNow_63 : decode cX7_walkNow 63 = .ok (.dup2, 1) := by decide +kernel
theorem dX7_walkNow_64 : decode cX7_walkNow 64 = .ok (.iaload, 1) := by decide +kernel
theorem dX7_walkNow_65 : decode cX7_walkNow 65 = .ok (.iconst 1, 1) := by decide +kernel
theorem dX7_walkNow_66 : decode cX7_walkNow 66 = .ok (.iadd, 1) := by decide +kernel
theorem dX7_walkNow_67 : decode cX7_walkNow 67 = .ok (.iastore, 1) := by decide +kernel
theorem dX7_walkNow_68 : decode cX7_walkNow 68 = .ok (.aload_n 0, 1) := by decide +kernel
theorem dX7_walkNow_69 : decode cX7_walkNow 69 = .ok (.getfield 7, 3) := by decide +kernel
theorem dX7_walkNow_72 : decode cX7_walkNow 72 = .ok (.iload_n 2, 1) := by decide +kernel
theorem dX7_walkNow_73 : decode cX7_walkNow 73 = .ok (.iaload, 1) := by decide +kernel
theorem dX7_walkNow_74 : decode cX7_walkNow 74 = .ok (.iconst 2, 1) := by decide +kernel
theorem dX7_walkNow_75 : decode cX7_walkNow 75 = .ok (.if_icmp .eq 16, 3) := by decide +kernel
theorem dX7_walkNow_78 : decode cX7_walkNow 78 = .ok (.aload_n 0, 1) := by decide +kernel
theorem dX7_walkNow_79 : decode cX7_walkNow 79 = .ok (.getfield 124, 3) := by decide +kernel
theorem dX7_walkNow_82 : decode cX7_walkNow 82 = .ok (.bipush 30, 2) := by decide +kernel
theorem dX7_walkNow_84 : decode cX7_walkNow 84 = .ok (.if_icmp .ge 7, 3) := by decide +kernel
theorem dX7_walkNow_87 : decode cX7_walkNow 87 = .ok (.iconst 1, 1) := by decide +kernel
theorem dX7_walkNow_88 : decode cX7_walkNow 88 = .ok (.goto 4, 3) := by decide +kernel
theorem dX7_walkNow_91 : decode cX7_walkNow 91 = .ok (.iconst 0, 1) := by decide +kernel
theorem dX7_walkNow_92 : decode cX7_walkNow 92 = .ok (.istore 4, 2) := by decide +kernel
theorem dX7_walkNow_94 : decode cX7_walkNow 94 = .ok (.aload_n 0, 1) := by decide +kernel
theorem dX7_walkNow_95 : decode cX7_walkNow 95 = .ok (.getfield 7, 3) := by decide +kernel
theorem dX7_walkNow_98 : decode cX7_walkNow 98 = .ok (.iload_n 2, 1) := by decide +kernel
theorem dX7_walkNow_99 : decode cX7_walkNow 99 = .ok (.iaload, 1) := by decide +kernel
theorem dX7_walkNow_100 : decode cX7_walkNow 100 = .ok (.aload_n 0, 1) := by decide +kernel
theorem dX7_walkNow_101 : decode cX7_walkNow 101 = .ok (.getfield 62, 3) := by decide +kernel
theorem dX7_walkNow_104 : decode cX7_walkNow 104 = .ok (.iload_n 2, 1) := by decide +kernel
theorem dX7_walkNow_105 : decode cX7_walkNow 105 = .ok (.iaload, 1) := by decide +kernel
theorem dX7_walkNow_106 : decode cX7_walkNow 106 = .ok (.iload_n 3, 1) := by decide +kernel
theorem dX7_walkNow_107 : decode cX7_walkNow 107 = .ok (.iconst 1, 1) := by decide +kernel
theorem dX7_walkNow_108 : decode cX7_walkNow 108 = .ok (.iand, 1) := by decide +kernel
theorem dX7_walkNow_109 : decode cX7_walkNow 109 = .ok (.invokestatic 220, 3) := by decide +kernel
theorem dX7_walkNow_112 : decode cX7_walkNow 112 = .ok (.istore 5, 2) := by decide +kernel
theorem dX7_walkNow_114 : decode cX7_walkNow 114 = .ok (.aload_n 0, 1) := by decide +kernel
theorem dX7_walkNow_115 : decode cX7_walkNow 115 = .ok (.getfield 7, 3) := by decide +kernel
theorem dX7_walkNow_118 : decode cX7_walkNow 118 = .ok (.iload_n 2, 1) := by decide +kernel
theorem dX7_walkNow_119 : decode cX7_walkNow 119 = .ok (.iaload, 1) := by decide +kernel
theorem dX7_walkNow_120 : decode cX7_walkNow 120 = .ok (.iconst 1, 1) := by decide +kernel
theorem dX7_walkNow_121 : decode cX7_walkNow 121 = .ok (.if_icmp .ne 9, 3) := by decide +kernel
theorem dX7_walkNow_124 : decode cX7_walkNow 124 = .ok (.iload_n 3, 1) := by decide +kernel
theorem dX7_walkNow_125 : decode cX7_walkNow 125 = .ok (.iconst 1, 1) := by decide +kernel
theorem dX7_walkNow_126 : decode cX7_walkNow 126 = .ok (.ishr, 1) := by decide +kernel
theorem dX7_walkNow_127 : decode cX7_walkNow 127 = .ok (.goto 4, 3) := by decide +kernel
theorem dX7_walkNow_130 : decode cX7_walkNow 130 = .ok (.iload_n 3, 1) := by decide +kernel
theorem dX7_walkNow_131 : decode cX7_walkNow 131 = .ok (.istore_n 3, 1) := by decide +kernel
theorem dX7_walkNow_132 : decode cX7_walkNow 132 = .ok (.aload_n 0, 1) := by decide +kernel
theorem dX7_walkNow_133 : decode cX7_walkNow 133 = .ok (.getfield 13, 3) := by decide +kernel
theorem dX7_walkNow_136 : decode cX7_walkNow 136 = .ok (.iconst 2, 1) := by decide +kernel
theorem dX7_walkNow_137 : decode cX7_walkNow 137 = .ok (.iload_n 2, 1) := by decide +kernel
theorem dX7_walkNow_138 : decode cX7_walkNow 138 = .ok (.imul, 1) := by decide +kernel
theorem dX7_walkNow_139 : decode cX7_walkNow 139 = .ok (.iload 5, 2) := by decide +kernel
theorem dX7_walkNow_141 : decode cX7_walkNow 141 = .ok (.iadd, 1) := by decide +kernel
theorem dX7_walkNow_142 : decode cX7_walkNow 142 = .ok (.iaload, 1) := by decide +kernel
theorem dX7_walkNow_143 : decode cX7_walkNow 143 = .ok (.istore_n 2, 1) := by decide +kernel
theorem dX7_walkNow_144 : decode cX7_walkNow 144 = .ok (.goto (-111), 3) := by decide +kernel
theorem dX7_walkNow_147 : decode cX7_walkNow 147 = .ok (.aload_n 0, 1) := by decide +kernel
theorem dX7_walkNow_148 : decode cX7_walkNow 148 = .ok (.getfield 124, 3) := by decide +kernel
theorem dX7_walkNow_151 : decode cX7_walkNow 151 = .ok (.ireturn, 1) := by decide +kernel
theorem dX7_walk_0 : decode cX7_walk 0 = .ok (.iload_n 1, 1) := by decide +kernel
theorem dX7_walk_1 : decode cX7_walk 1 = .ok (.ifCond .ge 6, 3) := by decide +kernel
theorem dX7_walk_4 : decode cX7_walk 4 = .ok (.bipush (-102), 2) := by decide +kernel
theorem dX7_walk_6 : decode cX7_walk 6 = .ok (.ireturn, 1) := by decide +kernel
theorem dX7_walk_7 : decode cX7_walk 7 = .ok (.aload_n 0, 1) := by decide +kernel
theorem dX7_walk_8 : decode cX7_walk 8 = .ok (.getfield 121, 3) := by decide +kernel
theorem dX7_walk_11 : decode cX7_walk 11 = .ok (.ifCond .ne 8, 3) := by decide +kernel
theorem dX7_walk_14 : decode cX7_walk 14 = .ok (.bipush (-103), 2) := by decide +kernel
theorem dX7_walk_16 : decode cX7_walk 16 = .ok (.goto 8, 3) := by decide +kernel
theorem dX7_walk_19 : decode cX7_walk 19 = .ok (.aload_n 0, 1) := by decide +kernel
theorem dX7_walk_20 : decode cX7_walk 20 = .ok (.iload_n 1, 1) := by decide +kernel
theorem dX7_walk_21 : decode cX7_walk 21 = .ok (.invokevirtual 224, 3) := by decide +kernel
theorem dX7_walk_24 : decode cX7_walk 24 = .ok (.ireturn, 1) := by decide +kernel
theorem dX7_visit_0 : decode cX7_visit 0 = .ok (.iload_n 1, 1) := by decide +kernel
theorem dX7_visit_1 : decode cX7_visit 1 = .ok (.iconst 0, 1) := by decide +kernel
theorem dX7_visit_2 : decode cX7_visit 2 = .ok (.aload_n 0, 1) := by decide +kernel
theorem dX7_visit_3 : decode cX7_visit 3 = .ok (.getfield 124, 3) := by decide +kernel
theorem dX7_visit_6 : decode cX7_visit 6 = .ok (.iconst 1, 1) := by decide +kernel
theorem dX7_visit_7 : decode cX7_visit 7 = .ok (.isub, 1) := by decide +kernel
theorem dX7_visit_8 : decode cX7_visit 8 = .ok (.invokestatic 89, 3) := by decide +kernel
theorem dX7_visit_11 : decode cX7_visit 11 = .ok (.ifCond .eq 12, 3) := by decide +kernel
theorem dX7_visit_14 : decode cX7_visit 14 = .ok (.aload_n 0, 1) := by decide +kernel
theorem dX7_visit_15 : decode cX7_visit 15 = .ok (.getfield 16, 3) := by decide +kernel
theorem dX7_visit_18 : decode cX7_visit 18 = .ok (.iload_n 1, 1) := by decide +kernel
theorem dX7_visit_19 : decode cX7_visit 19 = .ok (.iaload, 1) := by decide +kernel
theorem dX7_visit_20 : decode cX7_visit 20 = .ok (.goto 5, 3) := by decide +kernel
theorem dX7_visit_23 : decode cX7_visit 23 = .ok (.bipush (-101), 2) := by decide +kernel
theorem dX7_visit_25 : decode cX7_visit 25 = .ok (.ireturn, 1) := by decide +kernel
theorem dX7_tell_0 : decode cX7_tell 0 = .ok (.aload_n 0, 1) := by decide +kernel
theorem dX7_tell_1 : decode cX7_tell 1 = .ok (.getfield 65, 3) := by decide +kernel
theorem dX7_tell_4 : decode cX7_tell 4 = .ok (.aload_n 0, 1) := by decide +kernel
theorem dX7_tell_5 : decode cX7_tell 5 = .ok (.getfield 227, 3) := by decide +kernel
theorem dX7_tell_8 : decode cX7_tell 8 = .ok (.iload_n 1, 1) := by decide +kernel
theorem dX7_tell_9 : decode cX7_tell 9 = .ok (.iastore, 1) := by decide +kernel
theorem dX7_tell_10 : decode cX7_tell 10 = .ok (.aload_n 0, 1) := by decide +kernel
theorem dX7_tell_11 : decode cX7_tell 11 = .ok (.dup, 1) := by decide +kernel
theorem dX7_tell_12 : decode cX7_tell 12 = .ok (.getfield 227, 3) := by decide +kernel
theorem dX7_tell_15 : decode cX7_tell 15 = .ok (.iconst 1, 1) := by decide +kernel
theorem dX7_tell_16 : decode cX7_tell 16 = .ok (.iadd, 1) := by decide +kernel
theorem dX7_tell_17 : decode cX7_tell 17 = .ok (.putfield 227, 3) := by decide +kernel
theorem dX7_tell_20 : decode cX7_tell 20 = .ok (.return_, 1) := by decide +kernel
theorem dX7_later_0 : decode cX7_later 0 = .ok (.aload_n 0, 1) := by decide +kernel
theorem dX7_later_1 : decode cX7_later 1 = .ok (.getfield 68, 3) := by decide +kernel
theorem dX7_later_4 : decode cX7_later 4 = .ok (.aload_n 0, 1) := by decide +kernel
theorem dX7_later_5 : decode cX7_later 5 = .ok (.getfield 230, 3) := by decide +kernel
theorem dX7_later_8 : decode cX7_later 8 = .ok (.iload_n 1, 1) := by decide +kernel
theorem dX7_later_9 : decode cX7_later 9 = .ok (.iastore, 1) := by decide +kernel
theorem dX7_later_10 : decode cX7_later 10 = .ok (.aload_n 0, 1) := by decide +kernel
theorem dX7_later_11 : decode cX7_later 11 = .ok (.dup, 1) := by decide +kernel
theorem dX7_later_12 : decode cX7_later 12 = .ok (.getfield 230, 3) := by decide +kernel
theorem dX7_later_15 : decode cX7_later 15 = .ok (.iconst 1, 1) := by decide +kernel
theorem dX7_later_16 : decode cX7_later 16 = .ok (.iadd, 1) := by decide +kernel
theorem dX7_later_17 : decode cX7_later 17 = .ok (.putfield 230, 3) := by decide +kernel
theorem dX7_later_20 : decode cX7_later 20 = .ok (.return_, 1) := by decide +kernel
theorem dX7_opens_0 : decode cX7_opens 0 = .ok (.aload_n 0, 1) := by decide +kernel
theorem dX7_opens_1 : decode cX7_opens 1 = .ok (.getfield 71, 3) := by decide +kernel
theorem dX7_opens_4 : decode cX7_opens 4 = .ok (.aload_n 0, 1) := by decide +kernel
theorem dX7_opens_5 : decode cX7_opens 5 = .ok (.getfield 233, 3) := by decide +kernel
theorem dX7_opens_8 : decode cX7_opens 8 = .ok (.iload_n 1, 1) := by decide +kernel
theorem dX7_opens_9 : decode cX7_opens 9 = .ok (.iastore, 1) := by decide +kernel
theorem dX7_opens_10 : decode cX7_opens 10 = .ok (.aload_n 0, 1) := by decide +kernel
theorem dX7_opens_11 : decode cX7_opens 11 = .ok (.dup, 1) := by decide +kernel
theorem dX7_opens_12 : decode cX7_opens 12 = .ok (.getfield 233, 3) := by decide +kernel
theorem dX7_opens_15 : decode cX7_opens 15 = .ok (.iconst 1, 1) := by decide +kernel
theorem dX7_opens_16 : decode cX7_opens 16 = .ok (.iadd, 1) := by decide +kernel
theorem dX7_opens_17 : decode cX7_opens 17 = .ok (.putfield 233, 3) := by decide +kernel
theorem dX7_opens_20 : decode cX7_opens 20 = .ok (.aload_n 0, 1) := by decide +kernel
theorem dX7_opens_21 : decode cX7_opens 21 = .ok (.aload_n 0, 1) := by decide +kernel
theorem dX7_opens_22 : decode cX7_opens 22 = .ok (.getfield 233, 3) := by decide +kernel
theorem dX7_opens_25 : decode cX7_opens 25 = .ok (.aload_n 0, 1) := by decide +kernel
theorem dX7_opens_26 : decode cX7_opens 26 = .ok (.getfield 236, 3) := by decide +kernel
theorem dX7_opens_29 : decode cX7_opens 29 = .ok (.if_icmp .le 10, 3) := by decide +kernel
theorem dX7_opens_32 : decode cX7_opens 32 = .ok (.aload_n 0, 1) := by decide +kernel
theorem dX7_opens_33 : decode cX7_opens 33 = .ok (.getfield 233, 3) := by decide +kernel
theorem dX7_opens_36 : decode cX7_opens 36 = .ok (.goto 7, 3) := by decide +kernel
theorem dX7_opens_39 : decode cX7_opens 39 = .ok (.aload_n 0, 1) := by decide +kernel
theorem dX7_opens_40 : decode cX7_opens 40 = .ok (.getfield 236, 3) := by decide +kernel
theorem dX7_opens_43 : decode cX7_opens 43 = .ok (.putfield 236, 3) := by decide +kernel
theorem dX7_opens_46 : decode cX7_opens 46 = .ok (.return_, 1) := by decide +kernel
theorem dX7_depthOf_0 : decode cX7_depthOf 0 = .ok (.aload_n 0, 1) := by decide +kernel
theorem dX7_depthOf_1 : decode cX7_depthOf 1 = .ok (.getfield 233, 3) := by decide +kernel
theorem dX7_depthOf_4 : decode cX7_depthOf 4 = .ok (.iconst 1, 1) := by decide +kernel
theorem dX7_depthOf_5 : decode cX7_depthOf 5 = .ok (.isub, 1) := by decide +kernel
theorem dX7_depthOf_6 : decode cX7_depthOf 6 = .ok (.istore_n 2, 1) := by decide +kernel
theorem dX7_depthOf_7 : decode cX7_depthOf 7 = .ok (.aload_n 0, 1) := by decide +kernel
theorem dX7_depthOf_8 : decode cX7_depthOf 8 = .ok (.getfield 71, 3) := by decide +kernel
theorem dX7_depthOf_11 : decode cX7_depthOf 11 = .ok (.iload_n 2, 1) := by decide +kernel
theorem dX7_depthOf_12 : decode cX7_depthOf 12 = .ok (.iaload, 1) := by decide +kernel
theorem dX7_depthOf_13 : decode cX7_depthOf 13 = .ok (.iload_n 1, 1) := by decide +kernel
theorem dX7_depthOf_14 : decode cX7_depthOf 14 = .ok (.if_icmp .eq 9, 3) := by decide +kernel
theorem dX7_depthOf_17 : decode cX7_depthOf 17 = .ok (.iinc 2 (-1), 3) := by decide +kernel
theorem dX7_depthOf_20 : decode cX7_depthOf 20 = .ok (.goto (-13), 3) := by decide +kernel
theorem dX7_depthOf_23 : decode cX7_depthOf 23 = .ok (.aload_n 0, 1) := by decide +kernel
theorem dX7_depthOf_24 : decode cX7_depthOf 24 = .ok (.getfield 233, 3) := by decide +kernel
theorem dX7_depthOf_27 : decode cX7_depthOf 27 = .ok (.iconst 1, 1) := by decide +kernel
theorem dX7_depthOf_28 : decode cX7_depthOf 28 = .ok (.isub, 1) := by decide +kernel
theorem dX7_depthOf_29 : decode cX7_depthOf 29 = .ok (.iload_n 2, 1) := by decide +kernel
theorem dX7_depthOf_30 : decode cX7_depthOf 30 = .ok (.isub, 1) := by decide +kernel
theorem dX7_depthOf_31 : decode cX7_depthOf 31 = .ok (.ireturn, 1) := by decide +kernel
theorem dX7_goOut_0 : decode cX7_goOut 0 = .ok (.aload_n 0, 1) := by decide +kernel
theorem dX7_goOut_1 : decode cX7_goOut 1 = .ok (.iload_n 2, 1) := by decide +kernel
theorem dX7_goOut_2 : decode cX7_goOut 2 = .ok (.invokevirtual 239, 3) := by decide +kernel
theorem dX7_goOut_5 : decode cX7_goOut 5 = .ok (.istore_n 3, 1) := by decide +kernel
theorem dX7_goOut_6 : decode cX7_goOut 6 = .ok (.aload_n 0, 1) := by decide +kernel
theorem dX7_goOut_7 : decode cX7_goOut 7 = .ok (.iload_n 1, 1) := by decide +kernel
theorem dX7_goOut_8 : decode cX7_goOut 8 = .ok (.iload_n 3, 1) := by decide +kernel
theorem dX7_goOut_9 : decode cX7_goOut 9 = .ok (.iadd, 1) := by decide +kernel
theorem dX7_goOut_10 : decode cX7_goOut 10 = .ok (.invokevirtual 242, 3) := by decide +kernel
theorem dX7_goOut_13 : decode cX7_goOut 13 = .ok (.aload_n 0, 1) := by decide +kernel
theorem dX7_goOut_14 : decode cX7_goOut 14 = .ok (.dup, 1) := by decide +kernel
theorem dX7_goOut_15 : decode cX7_goOut 15 = .ok (.getfield 246, 3) := by decide +kernel
theorem dX7_goOut_18 : decode cX7_goOut 18 = .ok (.iconst 1, 1) := by decide +kernel
theorem dX7_goOut_19 : decode cX7_goOut 19 = .ok (.iadd, 1) := by decide +kernel
theorem dX7_goOut_20 : decode cX7_goOut 20 = .ok (.putfield 246, 3) := by decide +kernel
theorem dX7_goOut_23 : decode cX7_goOut 23 = .ok (.aload_n 0, 1) := by decide +kernel
theorem dX7_goOut_24 : decode cX7_goOut 24 = .ok (.dup, 1) := by decide +kernel
theorem dX7_goOut_25 : decode cX7_goOut 25 = .ok (.getfield 249, 3) := by decide +kernel
theorem dX7_goOut_28 : decode cX7_goOut 28 = .ok (.iload_n 3, 1) := by decide +kernel
theorem dX7_goOut_29 : decode cX7_goOut 29 = .ok (.iadd, 1) := by decide +kernel
theorem dX7_goOut_30 : decode cX7_goOut 30 = .ok (.putfield 249, 3) := by decide +kernel
theorem dX7_goOut_33 : decode cX7_goOut 33 = .ok (.return_, 1) := by decide +kernel
theorem dX7_isBlock_0 : decode cX7_isBlock 0 = .ok (.aload_n 0, 1) := by decide +kernel
theorem dX7_isBlock_1 : decode cX7_isBlock 1 = .ok (.getfield 53, 3) := by decide +kernel
theorem dX7_isBlock_4 : decode cX7_isBlock 4 = .ok (.iload_n 2, 1) := by decide +kernel
theorem dX7_isBlock_5 : decode cX7_isBlock 5 = .ok (.iaload, 1) := by decide +kernel
theorem dX7_isBlock_6 : decode cX7_isBlock 6 = .ok (.iload_n 1, 1) := by decide +kernel
theorem dX7_isBlock_7 : decode cX7_isBlock 7 = .ok (.if_icmp .ne 29, 3) := by decide +kernel
theorem dX7_isBlock_10 : decode cX7_isBlock 10 = .ok (.aload_n 0, 1) := by decide +kernel
theorem dX7_isBlock_11 : decode cX7_isBlock 11 = .ok (.getfield 171, 3) := by decide +kernel
theorem dX7_isBlock_14 : decode cX7_isBlock 14 = .ok (.iload_n 2, 1) := by decide +kernel
theorem dX7_isBlock_15 : decode cX7_isBlock 15 = .ok (.invokestatic 139, 3) := by decide +kernel
theorem dX7_isBlock_18 : decode cX7_isBlock 18 = .ok (.ifCond .eq 18, 3) := by decide +kernel
theorem dX7_isBlock_21 : decode cX7_isBlock 21 = .ok (.aload_n 0, 1) := by decide +kernel
theorem dX7_isBlock_22 : decode cX7_isBlock 22 = .ok (.getfield 143, 3) := by decide +kernel
theorem dX7_isBlock_25 : decode cX7_isBlock 25 = .ok (.iload_n 2, 1) := by decide +kernel
theorem dX7_isBlock_26 : decode cX7_isBlock 26 = .ok (.invokestatic 139, 3) := by decide +kernel
theorem dX7_isBlock_29 : decode cX7_isBlock 29 = .ok (.ifCond .eq 7, 3) := by decide +kernel
theorem dX7_isBlock_32 : decode cX7_isBlock 32 = .ok (.iconst 1, 1) := by decide +kernel
theorem dX7_isBlock_33 : decode cX7_isBlock 33 = .ok (.goto 4, 3) := by decide +kernel
theorem dX7_isBlock_36 : decode cX7_isBlock 36 = .ok (.iconst 0, 1) := by decide +kernel
theorem dX7_isBlock_37 : decode cX7_isBlock 37 = .ok (.ireturn, 1) := by decide +kernel
theorem dX7_layWithin_0 : decode cX7_layWithin 0 = .ok (.aload_n 0, 1) := by decide +kernel
theorem dX7_layWithin_1 : decode cX7_layWithin 1 = .ok (.getfield 150, 3) := by decide +kernel
theorem dX7_layWithin_4 : decode cX7_layWithin 4 = .ok (.iconst 1, 1) := by decide +kernel
theorem dX7_layWithin_5 : decode cX7_layWithin 5 = .ok (.isub, 1) := by decide +kernel
theorem dX7_layWithin_6 : decode cX7_layWithin 6 = .ok (.istore_n 2, 1) := by decide +kernel
theorem dX7_layWithin_7 : decode cX7_layWithin 7 = .ok (.iload_n 2, 1) := by decide +kernel
theorem dX7_layWithin_8 : decode cX7_layWithin 8 = .ok (.ifCond .lt 44, 3) := by decide +kernel
theorem dX7_layWithin_11 : decode cX7_layWithin 11 = .ok (.aload_n 0, 1) := by decide +kernel
theorem dX7_layWithin_12 : decode cX7_layWithin 12 = .ok (.iload_n 1, 1) := by decide +kernel
theorem dX7_layWithin_13 : decode cX7_layWithin 13 = .ok (.aload_n 0, 1) := by decide +kernel
theorem dX7_layWithin_14 : decode cX7_layWithin 14 = .ok (.getfield 44, 3) := by decide +kernel
theorem dX7_layWithin_17 : decode cX7_layWithin 17 = .ok (.iload_n 2, 1) := by decide +kernel
theorem dX7_layWithin_18 : decode cX7_layWithin 18 = .ok (.iaload, 1) := by decide +kernel
theorem dX7_layWithin_19 : decode cX7_layWithin 19 = .ok (.invokevirtual 252, 3) := by decide +kernel
theorem dX7_layWithin_22 : decode cX7_layWithin 22 = .ok (.ifCond .eq 24, 3) := by decide +kernel
theorem dX7_layWithin_25 : decode cX7_layWithin 25 = .ok (.aload_n 0, 1) := by decide +kernel
theorem dX7_layWithin_26 : decode cX7_layWithin 26 = .ok (.sipush 1000, 3) := by decide +kernel
theorem dX7_layWithin_29 : decode cX7_layWithin 29 = .ok (.aload_n 0, 1) := by decide +kernel
theorem dX7_layWithin_30 : decode cX7_layWithin 30 = .ok (.getfield 44, 3) := by decide +kernel
theorem dX7_layWithin_33 : decode cX7_layWithin 33 = .ok (.iload_n 2, 1) := by decide +kernel
theorem dX7_layWithin_34 : decode cX7_layWithin 34 = .ok (.iaload, 1) := by decide +kernel
theorem dX7_layWithin_35 : decode cX7_layWithin 35 = .ok (.iadd, 1) := by decide +kernel
theorem dX7_layWithin_36 : decode cX7_layWithin 36 = .ok (.invokevirtual 255, 3) := by decide +kernel
theorem dX7_layWithin_39 : decode cX7_layWithin 39 = .ok (.aload_n 0, 1) := by decide +kernel
theorem dX7_layWithin_40 : decode cX7_layWithin 40 = .ok (.sipush 6301, 3) := by decide +kernel
theorem dX7_layWithin_43 : decode cX7_layWithin 43 = .ok (.invokevirtual 255, 3) := by decide +kernel
theorem dX7_layWithin_46 : decode cX7_layWithin 46 = .ok (.iinc 2 (-1), 3) := by decide +kernel
theorem dX7_layWithin_49 : decode cX7_layWithin 49 = .ok (.goto (-42), 3) := by decide +kernel
theorem dX7_layWithin_52 : decode cX7_layWithin 52 = .ok (.aload_n 0, 1) := by decide +kernel
theorem dX7_layWithin_53 : decode cX7_layWithin 53 = .ok (.getfield 38, 3) := by decide +kernel
theorem dX7_layWithin_56 : decode cX7_layWithin 56 = .ok (.iload_n 1, 1) := by decide +kernel
theorem dX7_layWithin_57 : decode cX7_layWithin 57 = .ok (.iaload, 1) := by decide +kernel
theorem dX7_layWithin_58 : decode cX7_layWithin 58 = .ok (.invokestatic 114, 3) := by decide +kernel
theorem dX7_layWithin_61 : decode cX7_layWithin 61 = .ok (.istore_n 2, 1) := by decide +kernel
theorem dX7_layWithin_62 : decode cX7_layWithin 62 = .ok (.iload_n 2, 1) := by decide +kernel
theorem dX7_layWithin_63 : decode cX7_layWithin 63 = .ok (.iconst 1, 1) := by decide +kernel
theorem dX7_layWithin_64 : decode cX7_layWithin 64 = .ok (.if_icmp .le 30, 3) := by decide +kernel
theorem dX7_layWithin_67 : decode cX7_layWithin 67 = .ok (.aload_n 0, 1) := by decide +kernel
theorem dX7_layWithin_68 : decode cX7_layWithin 68 = .ok (.sipush 401, 3) := by decide +kernel
theorem dX7_layWithin_71 : decode cX7_layWithin 71 = .ok (.invokevirtual 255, 3) := by decide +kernel
theorem dX7_layWithin_74 : decode cX7_layWithin 74 = .ok (.aload_n 0, 1) := by decide +kernel
theorem dX7_layWithin_75 : decode cX7_layWithin 75 = .ok (.sipush 3000, 3) := by decide +kernel
theorem dX7_layWithin_78 : decode cX7_layWithin 78 = .ok (.iconst 2, 1) := by decide +kernel
theorem dX7_layWithin_79 : decode cX7_layWithin 79 = .ok (.iload_n 1, 1) := by decide +kernel
theorem dX7_layWithin_80 : decode cX7_layWithin 80 = .ok (.imul, 1) := by decide +kernel
theorem dX7_layWithin_81 : decode cX7_layWithin 81 = .ok (.iadd, 1) := by decide +kernel
theorem dX7_layWithin_82 : decode cX7_layWithin 82 = .ok (.iconst 1, 1) := by decide +kernel
theorem dX7_layWithin_83 : decode cX7_layWithin 83 = .ok (.iadd, 1) := by decide +kernel
theorem dX7_layWithin_84 : decode cX7_layWithin 84 = .ok (.invokevirtual 255, 3) := by decide +kernel
theorem dX7_layWithin_87 : decode cX7_layWithin 87 = .ok (.aload_n 0, 1) := by decide +kernel
theorem dX7_layWithin_88 : decode cX7_layWithin 88 = .ok (.sipush 400, 3) := by decide +kernel
theorem dX7_layWithin_91 : decode cX7_layWithin 91 = .ok (.invokevirtual 255, 3) := by decide +kernel
theorem dX7_layWithin_94 : decode cX7_layWithin 94 = .ok (.iload_n 2, 1) := by decide +kernel
theorem dX7_layWithin_95 : decode cX7_layWithin 95 = .ok (.ifCond .le 14, 3) := by decide +kernel
theorem dX7_layWithin_98 : decode cX7_layWithin 98 = .ok (.aload_n 0, 1) := by decide +kernel
theorem dX7_layWithin_99 : decode cX7_layWithin 99 = .ok (.sipush 3000, 3) := by decide +kernel
theorem dX7_layWithin_102 : decode cX7_layWithin 102 = .ok (.iconst 2, 1) := by decide +kernel
theorem dX7_layWithin_103 : decode cX7_layWithin 103 = .ok (.iload_n 1, 1) := by decide +kernel
theorem dX7_layWithin_104 : decode cX7_layWithin 104 = .ok (.imul, 1) := by decide +kernel
theorem dX7_layWithin_105 : decode cX7_layWithin 105 = .ok (.iadd, 1) := by decide +kernel
theorem dX7_layWithin_106 : decode cX7_layWithin 106 = .ok (.invokevirtual 255, 3) := by decide +kernel
theorem dX7_layWithin_109 : decode cX7_layWithin 109 = .ok (.aload_n 0, 1) := by decide +kernel
theorem dX7_layWithin_110 : decode cX7_layWithin 110 = .ok (.iload_n 1, 1) := by decide +kernel
theorem dX7_layWithin_111 : decode cX7_layWithin 111 = .ok (.invokevirtual 255, 3) := by decide +kernel
theorem dX7_layWithin_114 : decode cX7_layWithin 114 = .ok (.iconst 0, 1) := by decide +kernel
theorem dX7_layWithin_115 : decode cX7_layWithin 115 = .ok (.istore_n 3, 1) := by decide +kernel
theorem dX7_layWithin_116 : decode cX7_layWithin 116 = .ok (.iload_n 3, 1) := by decide +kernel
theorem dX7_layWithin_117 : decode cX7_layWithin 117 = .ok (.aload_n 0, 1) := by decide +kernel
theorem dX7_layWithin_118 : decode cX7_layWithin 118 = .ok (.getfield 150, 3) := by decide +kernel
theorem dX7_layWithin_121 : decode cX7_layWithin 121 = .ok (.if_icmp .ge 37, 3) := by decide +kernel
theorem dX7_layWithin_124 : decode cX7_layWithin 124 = .ok (.aload_n 0, 1) := by decide +kernel
theorem dX7_layWithin_125 : decode cX7_layWithin 125 = .ok (.iload_n 1, 1) := by decide +kernel
theorem dX7_layWithin_126 : decode cX7_layWithin 126 = .ok (.aload_n 0, 1) := by decide +kernel
theorem dX7_layWithin_127 : decode cX7_layWithin 127 = .ok (.getfield 44, 3) := by decide +kernel
theorem dX7_layWithin_130 : decode cX7_layWithin 130 = .ok (.iload_n 3, 1) := by decide +kernel
theorem dX7_layWithin_131 : decode cX7_layWithin 131 = .ok (.iaload, 1) := by decide +kernel
theorem dX7_layWithin_132 : decode cX7_layWithin 132 = .ok (.invokevirtual 252, 3) := by decide +kernel
theorem dX7_layWithin_135 : decode cX7_layWithin 135 = .ok (.ifCond .eq 17, 3) := by decide +kernel
theorem dX7_layWithin_138 : decode cX7_layWithin 138 = .ok (.aload_n 0, 1) := by decide +kernel
theorem dX7_layWithin_139 : decode cX7_layWithin 139 = .ok (.sipush 5000, 3) := by decide +kernel
theorem dX7_layWithin_142 : decode cX7_layWithin 142 = .ok (.aload_n 0, 1) := by decide +kernel
theorem dX7_layWithin_143 : decode cX7_layWithin 143 = .ok (.getfield 44, 3) := by decide +kernel
theorem dX7_layWithin_146 : decode cX7_layWithin 146 = .ok (.iload_n 3, 1) := by decide +kernel
theorem dX7_layWithin_147 : decode cX7_layWithin 147 = .ok (.iaload, 1) := by decide +kernel
theorem dX7_layWithin_148 : decode cX7_layWithin 148 = .ok (.iadd, 1) := by decide +kernel
theorem dX7_layWithin_149 : decode cX7_layWithin 149 = .ok (.invokevirtual 255, 3) := by decide +kernel
theorem dX7_layWithin_152 : decode cX7_layWithin 152 = .ok (.iinc 3 1, 3) := by decide +kernel
theorem dX7_layWithin_155 : decode cX7_layWithin 155 = .ok (.goto (-39), 3) := by decide +kernel
theorem dX7_layWithin_158 : decode cX7_layWithin 158 = .ok (.return_, 1) := by decide +kernel
theorem dX7_layTree_0 : decode cX7_layTree 0 = .ok (.aload_n 0, 1) := by decide +kernel
theorem dX7_layTree_1 : decode cX7_layTree 1 = .ok (.getfield 168, 3) := by decide +kernel
theorem dX7_layTree_4 : decode cX7_layTree 4 = .ok (.iload_n 1, 1) := by decide +kernel
theorem dX7_layTree_5 : decode cX7_layTree 5 = .ok (.invokestatic 139, 3) := by decide +kernel
theorem dX7_layTree_8 : decode cX7_layTree 8 = .ok (.ifCond .eq 31, 3) := by decide +kernel
theorem dX7_layTree_11 : decode cX7_layTree 11 = .ok (.aload_n 0, 1) := by decide +kernel
theorem dX7_layTree_12 : decode cX7_layTree 12 = .ok (.sipush 6300, 3) := by decide +kernel
theorem dX7_layTree_15 : decode cX7_layTree 15 = .ok (.invokevirtual 255, 3) := by decide +kernel
theorem dX7_layTree_18 : decode cX7_layTree 18 = .ok (.aload_n 0, 1) := by decide +kernel
theorem dX7_layTree_19 : decode cX7_layTree 19 = .ok (.sipush 2000, 3) := by decide +kernel
theorem dX7_layTree_22 : decode cX7_layTree 22 = .ok (.iload_n 1, 1) := by decide +kernel
theorem dX7_layTree_23 : decode cX7_layTree 23 = .ok (.iadd, 1) := by decide +kernel
theorem dX7_layTree_24 : decode cX7_layTree 24 = .ok (.invokevirtual 255, 3) := by decide +kernel
theorem dX7_layTree_27 : decode cX7_layTree 27 = .ok (.aload_n 0, 1) := by decide +kernel
theorem dX7_layTree_28 : decode cX7_layTree 28 = .ok (.sipush 4000, 3) := by decide +kernel
theorem dX7_layTree_31 : decode cX7_layTree 31 = .ok (.iload_n 1, 1) := by decide +kernel
theorem dX7_layTree_32 : decode cX7_layTree 32 = .ok (.iadd, 1) := by decide +kernel
theorem dX7_layTree_33 : decode cX7_layTree 33 = .ok (.invokevirtual 255, 3) := by decide +kernel
theorem dX7_layTree_36 : decode cX7_layTree 36 = .ok (.goto 12, 3) := by decide +kernel
theorem dX7_layTree_39 : decode cX7_layTree 39 = .ok (.aload_n 0, 1) := by decide +kernel
theorem dX7_layTree_40 : decode cX7_layTree 40 = .ok (.sipush 2000, 3) := by decide +kernel
theorem dX7_layTree_43 : decode cX7_layTree 43 = .ok (.iload_n 1, 1) := by decide +kernel
theorem dX7_layTree_44 : decode cX7_layTree 44 = .ok (.iadd, 1) := by decide +kernel
theorem dX7_layTree_45 : decode cX7_layTree 45 = .ok (.invokevirtual 255, 3) := by decide +kernel
theorem dX7_layTree_48 : decode cX7_layTree 48 = .ok (.return_, 1) := by decide +kernel
theorem dX7_branch_0 : decode cX7_branch 0 = .ok (.aload_n 0, 1) := by decide +kernel
theorem dX7_branch_1 : decode cX7_branch 1 = .ok (.getfield 41, 3) := by decide +kernel
theorem dX7_branch_4 : decode cX7_branch 4 = .ok (.iload_n 1, 1) := by decide +kernel
theorem dX7_branch_5 : decode cX7_branch 5 = .ok (.iaload, 1) := by decide +kernel
theorem dX7_branch_6 : decode cX7_branch 6 = .ok (.istore_n 2, 1) := by decide +kernel
theorem dX7_branch_7 : decode cX7_branch 7 = .ok (.aload_n 0, 1) := by decide +kernel
theorem dX7_branch_8 : decode cX7_branch 8 = .ok (.iload_n 1, 1) := by decide +kernel
theorem dX7_branch_9 : decode cX7_branch 9 = .ok (.invokevirtual 180, 3) := by decide +kernel
theorem dX7_branch_12 : decode cX7_branch 12 = .ok (.ifCond .eq 18, 3) := by decide +kernel
theorem dX7_branch_15 : decode cX7_branch 15 = .ok (.aload_n 0, 1) := by decide +kernel
theorem dX7_branch_16 : decode cX7_branch 16 = .ok (.sipush 500, 3) := by decide +kernel
theorem dX7_branch_19 : decode cX7_branch 19 = .ok (.sipush 4000, 3) := by decide +kernel
theorem dX7_branch_22 : decode cX7_branch 22 = .ok (.iload_n 2, 1) := by decide +kernel
theorem dX7_branch_23 : decode cX7_branch 23 = .ok (.iadd, 1) := by decide +kernel
theorem dX7_branch_24 : decode cX7_branch 24 = .ok (.invokevirtual 258, 3) := by decide +kernel
theorem dX7_branch_27 : decode cX7_branch 27 = .ok (.goto 38, 3) := by decide +kernel
theorem dX7_branch_30 : decode cX7_branch 30 = .ok (.aload_n 0, 1) := by decide +kernel
theorem dX7_branch_31 : decode cX7_branch 31 = .ok (.getfield 171, 3) := by decide +kernel
theorem dX7_branch_34 : decode cX7_branch 34 = .ok (.iload_n 2, 1) := by decide +kernel
theorem dX7_branch_35 : decode cX7_branch 35 = .ok (.invokestatic 139, 3) := by decide +kernel
theorem dX7_branch_38 : decode cX7_branch 38 = .ok (.ifCond .eq 18, 3) := by decide +kernel
theorem dX7_branch_41 : decode cX7_branch 41 = .ok (.aload_n 0, 1) := by decide +kernel
theorem dX7_branch_42 : decode cX7_branch 42 = .ok (.sipush 600, 3) := by decide +kernel
theorem dX7_branch_45 : decode cX7_branch 45 = .ok (.sipush 5000, 3) := by decide +kernel
theorem dX7_branch_48 : decode cX7_branch 48 = .ok (.iload_n 2, 1) := by decide +kernel
theorem dX7_branch_49 : decode cX7_branch 49 = .ok (.iadd, 1) := by decide +kernel
theorem dX7_branch_50 : decode cX7_branch 50 = .ok (.invokevirtual 258, 3) := by decide +kernel
theorem dX7_branch_53 : decode cX7_branch 53 = .ok (.goto 12, 3) := by decide +kernel
theorem dX7_branch_56 : decode cX7_branch 56 = .ok (.aload_n 0, 1) := by decide +kernel
theorem dX7_branch_57 : decode cX7_branch 57 = .ok (.sipush 1000, 3) := by decide +kernel
theorem dX7_branch_60 : decode cX7_branch 60 = .ok (.iload_n 2, 1) := by decide +kernel
theorem dX7_branch_61 : decode cX7_branch 61 = .ok (.iadd, 1) := by decide +kernel
theorem dX7_branch_62 : decode cX7_branch 62 = .ok (.invokevirtual 255, 3) := by decide +kernel
theorem dX7_branch_65 : decode cX7_branch 65 = .ok (.return_, 1) := by decide +kernel
theorem dX7_doNext_0 : decode cX7_doNext 0 = .ok (.iload_n 1, 1) := by decide +kernel
theorem dX7_doNext_1 : decode cX7_doNext 1 = .ok (.sipush 1000, 3) := by decide +kernel
theorem dX7_doNext_4 : decode cX7_doNext 4 = .ok (.idiv, 1) := by decide +kernel
theorem dX7_doNext_5 : decode cX7_doNext 5 = .ok (.sipush 1000, 3) := by decide +kernel
theorem dX7_doNext_8 : decode cX7_doNext 8 = .ok (.imul, 1) := by decide +kernel
theorem dX7_doNext_9 : decode cX7_doNext 9 = .ok (.istore_n 2, 1) := by decide +kernel
theorem dX7_doNext_10 : decode cX7_doNext 10 = .ok (.iload_n 1, 1) := by decide +kernel
theorem dX7_doNext_11 : decode cX7_doNext 11 = .ok (.sipush 1000, 3) := by decide +kernel
theorem dX7_doNext_14 : decode cX7_doNext 14 = .ok (.irem, 1) := by decide +kernel
theorem dX7_doNext_15 : decode cX7_doNext 15 = .ok (.istore_n 3, 1) := by decide +kernel
theorem dX7_doNext_16 : decode cX7_doNext 16 = .ok (.iload_n 2, 1) := by decide +kernel
theorem dX7_doNext_17 : decode cX7_doNext 17 = .ok (.lookupswitch 134 #[(1000, 59), (2000, 67), (3000, 75), (4000, 83), (5000, 99), (6000, 116)], 59) := by decide +kernel
theorem dX7_doNext_76 : decode cX7_doNext 76 = .ok (.aload_n 0, 1) := by decide +kernel
theorem dX7_doNext_77 : decode cX7_doNext 77 = .ok (.iload_n 3, 1) := by decide +kernel
theorem dX7_doNext_78 : decode cX7_doNext 78 = .ok (.invokevirtual 262, 3) := by decide +kernel
theorem dX7_doNext_81 : decode cX7_doNext 81 = .ok (.goto 75, 3) := by decide +kernel
theorem dX7_doNext_84 : decode cX7_doNext 84 = .ok (.aload_n 0, 1) := by decide +kernel
theorem dX7_doNext_85 : decode cX7_doNext 85 = .ok (.iload_n 3, 1) := by decide +kernel
theorem dX7_doNext_86 : decode cX7_doNext 86 = .ok (.invokevirtual 265, 3) := by decide +kernel
theorem dX7_doNext_89 : decode cX7_doNext 89 = .ok (.goto 67, 3) := by decide +kernel
theorem dX7_doNext_92 : decode cX7_doNext 92 = .ok (.aload_n 0, 1) := by decide +kernel
theorem dX7_doNext_93 : decode cX7_doNext 93 = .ok (.iload_n 3, 1) := by decide +kernel
theorem dX7_doNext_94 : decode cX7_doNext 94 = .ok (.invokevirtual 268, 3) := by decide +kernel
theorem dX7_doNext_97 : decode cX7_doNext 97 = .ok (.goto 59, 3) := by decide +kernel
theorem dX7_doNext_100 : decode cX7_doNext 100 = .ok (.aload_n 0, 1) := by decide +kernel
theorem dX7_doNext_101 : decode cX7_doNext 101 = .ok (.bipush 100, 2) := by decide +kernel
theorem dX7_doNext_103 : decode cX7_doNext 103 = .ok (.iload_n 3, 1) := by decide +kernel
theorem dX7_doNext_104 : decode cX7_doNext 104 = .ok (.iadd, 1) := by decide +kernel
theorem dX7_doNext_105 : decode cX7_doNext 105 = .ok (.invokevirtual 242, 3) := by decide +kernel
theorem dX7_doNext_108 : decode cX7_doNext 108 = .ok (.aload_n 0, 1) := by decide +kernel
theorem dX7_doNext_109 : decode cX7_doNext 109 = .ok (.iload_n 1, 1) := by decide +kernel
theorem dX7_doNext_110 : decode cX7_doNext 110 = .ok (.invokevirtual 271, 3) := by decide +kernel
theorem dX7_doNext_113 : decode cX7_doNext 113 = .ok (.goto 43, 3) := by decide +kernel
theorem dX7_doNext_116 : decode cX7_doNext 116 = .ok (.aload_n 0, 1) := by decide +kernel
theorem dX7_doNext_117 : decode cX7_doNext 117 = .ok (.sipush 200, 3) := by decide +kernel
theorem dX7_doNext_120 : decode cX7_doNext 120 = .ok (.iload_n 3, 1) := by decide +kernel
theorem dX7_doNext_121 : decode cX7_doNext 121 = .ok (.iadd, 1) := by decide +kernel
theorem dX7_doNext_122 : decode cX7_doNext 122 = .ok (.invokevirtual 242, 3) := by decide +kernel
theorem dX7_doNext_125 : decode cX7_doNext 125 = .ok (.aload_n 0, 1) := by decide +kernel
theorem dX7_doNext_126 : decode cX7_doNext 126 = .ok (.iload_n 1, 1) := by decide +kernel
theorem dX7_doNext_127 : decode cX7_doNext 127 = .ok (.invokevirtual 271, 3) := by decide +kernel
theorem dX7_doNext_130 : decode cX7_doNext 130 = .ok (.goto 26, 3) := by decide +kernel
theorem dX7_doNext_133 : decode cX7_doNext 133 = .ok (.aload_n 0, 1) := by decide +kernel
theorem dX7_doNext_134 : decode cX7_doNext 134 = .ok (.iload_n 3, 1) := by decide +kernel
theorem dX7_doNext_135 : decode cX7_doNext 135 = .ok (.invokevirtual 242, 3) := by decide +kernel
theorem dX7_doNext_138 : decode cX7_doNext 138 = .ok (.aload_n 0, 1) := by decide +kernel
theorem dX7_doNext_139 : decode cX7_doNext 139 = .ok (.dup, 1) := by decide +kernel
theorem dX7_doNext_140 : decode cX7_doNext 140 = .ok (.getfield 233, 3) := by decide +kernel
theorem dX7_doNext_143 : decode cX7_doNext 143 = .ok (.iconst 1, 1) := by decide +kernel
theorem dX7_doNext_144 : decode cX7_doNext 144 = .ok (.isub, 1) := by decide +kernel
theorem dX7_doNext_145 : decode cX7_doNext 145 = .ok (.putfield 233, 3) := by decide +kernel
theorem dX7_doNext_148 : decode cX7_doNext 148 = .ok (.goto 8, 3) := by decide +kernel
theorem dX7_doNext_151 : decode cX7_doNext 151 = .ok (.aload_n 0, 1) := by decide +kernel
theorem dX7_doNext_152 : decode cX7_doNext 152 = .ok (.iload_n 1, 1) := by decide +kernel
theorem dX7_doNext_153 : decode cX7_doNext 153 = .ok (.invokevirtual 242, 3) := by decide +kernel
theorem dX7_doNext_156 : decode cX7_doNext 156 = .ok (.return_, 1) := by decide +kernel
theorem dX7_layFold_0 : decode cX7_layFold 0 = .ok (.aload_n 0, 1) := by decide +kernel
theorem dX7_layFold_1 : decode cX7_layFold 1 = .ok (.invokevirtual 210, 3) := by decide +kernel
theorem dX7_layFold_4 : decode cX7_layFold 4 = .ok (.aload_n 0, 1) := by decide +kernel
theorem dX7_layFold_5 : decode cX7_layFold 5 = .ok (.iconst 0, 1) := by decide +kernel
theorem dX7_layFold_6 : decode cX7_layFold 6 = .ok (.putfield 227, 3) := by decide +kernel
theorem dX7_layFold_9 : decode cX7_layFold 9 = .ok (.aload_n 0, 1) := by decide +kernel
theorem dX7_layFold_10 : decode cX7_layFold 10 = .ok (.iconst 0, 1) := by decide +kernel
theorem dX7_layFold_11 : decode cX7_layFold 11 = .ok (.putfield 246, 3) := by decide +kernel
theorem dX7_layFold_14 : decode cX7_layFold 14 = .ok (.aload_n 0, 1) := by decide +kernel
theorem dX7_layFold_15 : decode cX7_layFold 15 = .ok (.iconst 0, 1) := by decide +kernel
theorem dX7_layFold_16 : decode cX7_layFold 16 = .ok (.putfield 249, 3) := by decide +kernel
theorem dX7_layFold_19 : decode cX7_layFold 19 = .ok (.aload_n 0, 1) := by decide +kernel
theorem dX7_layFold_20 : decode cX7_layFold 20 = .ok (.iconst 0, 1) := by decide +kernel
theorem dX7_layFold_21 : decode cX7_layFold 21 = .ok (.putfield 236, 3) := by decide +kernel
theorem dX7_layFold_24 : decode cX7_layFold 24 = .ok (.aload_n 0, 1) := by decide +kernel
theorem dX7_layFold_25 : decode cX7_layFold 25 = .ok (.iconst 0, 1) := by decide +kernel
theorem dX7_layFold_26 : decode cX7_layFold 26 = .ok (.putfield 230, 3) := by decide +kernel
theorem dX7_layFold_29 : decode cX7_layFold 29 = .ok (.aload_n 0, 1) := by decide +kernel
theorem dX7_layFold_30 : decode cX7_layFold 30 = .ok (.iconst 0, 1) := by decide +kernel
theorem dX7_layFold_31 : decode cX7_layFold 31 = .ok (.putfield 233, 3) := by decide +kernel
theorem dX7_layFold_34 : decode cX7_layFold 34 = .ok (.aload_n 0, 1) := by decide +kernel
theorem dX7_layFold_35 : decode cX7_layFold 35 = .ok (.getfield 121, 3) := by decide +kernel
theorem dX7_layFold_38 : decode cX7_layFold 38 = .ok (.ifCond .le 17, 3) := by decide +kernel
theorem dX7_layFold_41 : decode cX7_layFold 41 = .ok (.aload_n 0, 1) := by decide +kernel
theorem dX7_layFold_42 : decode cX7_layFold 42 = .ok (.getfield 165, 3) := by decide +kernel
theorem dX7_layFold_45 : decode cX7_layFold 45 = .ok (.ifCond .ne 10, 3) := by decide +kernel
theorem dX7_layFold_48 : decode cX7_layFold 48 = .ok (.aload_n 0, 1) := by decide +kernel
theorem dX7_layFold_49 : decode cX7_layFold 49 = .ok (.sipush 1000, 3) := by decide +kernel
theorem dX7_layFold_52 : decode cX7_layFold 52 = .ok (.invokevirtual 255, 3) := by decide +kernel
theorem dX7_layFold_55 : decode cX7_layFold 55 = .ok (.aload_n 0, 1) := by decide +kernel
theorem dX7_layFold_56 : decode cX7_layFold 56 = .ok (.getfield 230, 3) := by decide +kernel
theorem dX7_layFold_59 : decode cX7_layFold 59 = .ok (.ifCond .le 29, 3) := by decide +kernel
theorem dX7_layFold_62 : decode cX7_layFold 62 = .ok (.aload_n 0, 1) := by decide +kernel
theorem dX7_layFold_63 : decode cX7_layFold 63 = .ok (.dup, 1) := by decide +kernel
theorem dX7_layFold_64 : decode cX7_layFold 64 = .ok (.getfield 230, 3) := by decide +kernel
theorem dX7_layFold_67 : decode cX7_layFold 67 = .ok (.iconst 1, 1) := by decide +kernel
theorem dX7_layFold_68 : decode cX7_layFold 68 = .ok (.isub, 1) := by decide +kernel
theorem dX7_layFold_69 : decode cX7_layFold 69 = .ok (.putfield 230, 3) := by decide +kernel
theorem dX7_layFold_72 : decode cX7_layFold 72 = .ok (.aload_n 0, 1) := by decide +kernel
theorem dX7_layFold_73 : decode cX7_layFold 73 = .ok (.aload_n 0, 1) := by decide +kernel
theorem dX7_layFold_74 : decode cX7_layFold 74 = .ok (.getfield 68, 3) := by decide +kernel
theorem dX7_layFold_77 : decode cX7_layFold 77 = .ok (.aload_n 0, 1) := by decide +kernel
theorem dX7_layFold_78 : decode cX7_layFold 78 = .ok (.getfield 230, 3) := by decide +kernel
theorem dX7_layFold_81 : decode cX7_layFold 81 = .ok (.iaload, 1) := by decide +kernel
theorem dX7_layFold_82 : decode cX7_layFold 82 = .ok (.invokevirtual 274, 3) := by decide +kernel
theorem dX7_layFold_85 : decode cX7_layFold 85 = .ok (.goto (-30), 3) := by decide +kernel
theorem dX7_layFold_88 : decode cX7_layFold 88 = .ok (.return_, 1) := by decide +kernel
theorem dX7_sign_0 : decode cX7_sign 0 = .ok (.aload_n 0, 1) := by decide +kernel
theorem dX7_sign_1 : decode cX7_sign 1 = .ok (.getfield 121, 3) := by decide +kernel
theorem dX7_sign_4 : decode cX7_sign 4 = .ok (.ifCond .ne 6, 3) := by decide +kernel
theorem dX7_sign_7 : decode cX7_sign 7 = .ok (.bipush (-101), 2) := by decide +kernel
theorem dX7_sign_9 : decode cX7_sign 9 = .ok (.ireturn, 1) := by decide +kernel
theorem dX7_sign_10 : decode cX7_sign 10 = .ok (.aload_n 0, 1) := by decide +kernel
theorem dX7_sign_11 : decode cX7_sign 11 = .ok (.invokevirtual 277, 3) := by decide +kernel
theorem dX7_sign_14 : decode cX7_sign 14 = .ok (.iload_n 1, 1) := by decide +kernel
theorem dX7_sign_15 : decode cX7_sign 15 = .ok (.iconst 0, 1) := by decide +kernel
theorem dX7_sign_16 : decode cX7_sign 16 = .ok (.aload_n 0, 1) := by decide +kernel
theorem dX7_sign_17 : decode cX7_sign 17 = .ok (.getfield 227, 3) := by decide +kernel
theorem dX7_sign_20 : decode cX7_sign 20 = .ok (.iconst 1, 1) := by decide +kernel
theorem dX7_sign_21 : decode cX7_sign 21 = .ok (.isub, 1) := by decide +kernel
theorem dX7_sign_22 : decode cX7_sign 22 = .ok (.invokestatic 89, 3) := by decide +kernel
theorem dX7_sign_25 : decode cX7_sign 25 = .ok (.ifCond .eq 12, 3) := by decide +kernel
theorem dX7_sign_28 : decode cX7_sign 28 = .ok (.aload_n 0, 1) := by decide +kernel
theorem dX7_sign_29 : decode cX7_sign 29 = .ok (.getfield 65, 3) := by decide +kernel
theorem dX7_sign_32 : decode cX7_sign 32 = .ok (.iload_n 1, 1) := by decide +kernel
theorem dX7_sign_33 : decode cX7_sign 33 = .ok (.iaload, 1) := by decide +kernel
theorem dX7_sign_34 : decode cX7_sign 34 = .ok (.goto 5, 3) := by decide +kernel
theorem dX7_sign_37 : decode cX7_sign 37 = .ok (.bipush (-101), 2) := by decide +kernel
theorem dX7_sign_39 : decode cX7_sign 39 = .ok (.ireturn, 1) := by decide +kernel
theorem dX7_foldNow_0 : decode cX7_foldNow 0 = .ok (.aload_n 0, 1) := by decide +kernel
theorem dX7_foldNow_1 : decode cX7_foldNow 1 = .ok (.getfield 165, 3) := by decide +kernel
theorem dX7_foldNow_4 : decode cX7_foldNow 4 = .ok (.ifCond .le 7, 3) := by decide +kernel
theorem dX7_foldNow_7 : decode cX7_foldNow 7 = .ok (.iconst (-1), 1) := by decide +kernel
theorem dX7_foldNow_8 : decode cX7_foldNow 8 = .ok (.goto 42, 3) := by decide +kernel
theorem dX7_foldNow_11 : decode cX7_foldNow 11 = .ok (.iload_n 1, 1) := by decide +kernel
theorem dX7_foldNow_12 : decode cX7_foldNow 12 = .ok (.ifCond .ne 10, 3) := by decide +kernel
theorem dX7_foldNow_15 : decode cX7_foldNow 15 = .ok (.aload_n 0, 1) := by decide +kernel
theorem dX7_foldNow_16 : decode cX7_foldNow 16 = .ok (.getfield 227, 3) := by decide +kernel
theorem dX7_foldNow_19 : decode cX7_foldNow 19 = .ok (.goto 31, 3) := by decide +kernel
theorem dX7_foldNow_22 : decode cX7_foldNow 22 = .ok (.iload_n 1, 1) := by decide +kernel
theorem dX7_foldNow_23 : decode cX7_foldNow 23 = .ok (.iconst 1, 1) := by decide +kernel
theorem dX7_foldNow_24 : decode cX7_foldNow 24 = .ok (.if_icmp .ne 10, 3) := by decide +kernel
theorem dX7_foldNow_27 : decode cX7_foldNow 27 = .ok (.aload_n 0, 1) := by decide +kernel
theorem dX7_foldNow_28 : decode cX7_foldNow 28 = .ok (.getfield 246, 3) := by decide +kernel
theorem dX7_foldNow_31 : decode cX7_foldNow 31 = .ok (.goto 19, 3) := by decide +kernel
theorem dX7_foldNow_34 : decode cX7_foldNow 34 = .ok (.iload_n 1, 1) := by decide +kernel
theorem dX7_foldNow_35 : decode cX7_foldNow 35 = .ok (.iconst 2, 1) := by decide +kernel
theorem dX7_foldNow_36 : decode cX7_foldNow 36 = .ok (.if_icmp .ne 10, 3) := by decide +kernel
theorem dX7_foldNow_39 : decode cX7_foldNow 39 = .ok (.aload_n 0, 1) := by decide +kernel
theorem dX7_foldNow_40 : decode cX7_foldNow 40 = .ok (.getfield 249, 3) := by decide +kernel
theorem dX7_foldNow_43 : decode cX7_foldNow 43 = .ok (.goto 7, 3) := by decide +kernel
theorem dX7_foldNow_46 : decode cX7_foldNow 46 = .ok (.aload_n 0, 1) := by decide +kernel
theorem dX7_foldNow_47 : decode cX7_foldNow 47 = .ok (.getfield 236, 3) := by decide +kernel
theorem dX7_foldNow_50 : decode cX7_foldNow 50 = .ok (.ireturn, 1) := by decide +kernel
theorem dX7_fold_0 : decode cX7_fold 0 = .ok (.iload_n 1, 1) := by decide +kernel
theorem dX7_fold_1 : decode cX7_fold 1 = .ok (.iconst 0, 1) := by decide +kernel
theorem dX7_fold_2 : decode cX7_fold 2 = .ok (.iconst 3, 1) := by decide +kernel
theorem dX7_fold_3 : decode cX7_fold 3 = .ok (.invokestatic 89, 3) := by decide +kernel
theorem dX7_fold_6 : decode cX7_fold 6 = .ok (.ifCond .ne 6, 3) := by decide +kernel
theorem dX7_fold_9 : decode cX7_fold 9 = .ok (.bipush (-102), 2) := by decide +kernel
theorem dX7_fold_11 : decode cX7_fold 11 = .ok (.ireturn, 1) := by decide +kernel
theorem dX7_fold_12 : decode cX7_fold 12 = .ok (.aload_n 0, 1) := by decide +kernel
theorem dX7_fold_13 : decode cX7_fold 13 = .ok (.getfield 121, 3) := by decide +kernel
theorem dX7_fold_16 : decode cX7_fold 16 = .ok (.ifCond .ne 6, 3) := by decide +kernel
theorem dX7_fold_19 : decode cX7_fold 19 = .ok (.bipush (-103), 2) := by decide +kernel
theorem dX7_fold_21 : decode cX7_fold 21 = .ok (.ireturn, 1) := by decide +kernel
theorem dX7_fold_22 : decode cX7_fold 22 = .ok (.aload_n 0, 1) := by decide +kernel
theorem dX7_fold_23 : decode cX7_fold 23 = .ok (.invokevirtual 277, 3) := by decide +kernel
theorem dX7_fold_26 : decode cX7_fold 26 = .ok (.aload_n 0, 1) := by decide +kernel
theorem dX7_fold_27 : decode cX7_fold 27 = .ok (.iload_n 1, 1) := by decide +kernel
theorem dX7_fold_28 : decode cX7_fold 28 = .ok (.invokevirtual 280, 3) := by decide +kernel
theorem dX7_fold_31 : decode cX7_fold 31 = .ok (.ireturn, 1) := by decide +kernel
theorem dX7_mendSet_0 : decode cX7_mendSet 0 = .ok (.aload_n 0, 1) := by decide +kernel
theorem dX7_mendSet_1 : decode cX7_mendSet 1 = .ok (.invokevirtual 210, 3) := by decide +kernel
theorem dX7_mendSet_4 : decode cX7_mendSet 4 = .ok (.iconst 0, 1) := by decide +kernel
theorem dX7_mendSet_5 : decode cX7_mendSet 5 = .ok (.istore_n 1, 1) := by decide +kernel
theorem dX7_mendSet_6 : decode cX7_mendSet 6 = .ok (.iconst 0, 1) := by decide +kernel
theorem dX7_mendSet_7 : decode cX7_mendSet 7 = .ok (.istore_n 2, 1) := by decide +kernel
theorem dX7_mendSet_8 : decode cX7_mendSet 8 = .ok (.iload_n 2, 1) := by decide +kernel
theorem dX7_mendSet_9 : decode cX7_mendSet 9 = .ok (.iconst 2, 1) := by decide +kernel
theorem dX7_mendSet_10 : decode cX7_mendSet 10 = .ok (.aload_n 0, 1) := by decide +kernel
theorem dX7_mendSet_11 : decode cX7_mendSet 11 = .ok (.getfield 121, 3) := by decide +kernel
theorem dX7_mendSet_14 : decode cX7_mendSet 14 = .ok (.imul, 1) := by decide +kernel
theorem dX7_mendSet_15 : decode cX7_mendSet 15 = .ok (.if_icmp .ge 27, 3) := by decide +kernel
theorem dX7_mendSet_18 : decode cX7_mendSet 18 = .ok (.iload_n 1, 1) := by decide +kernel
theorem dX7_mendSet_19 : decode cX7_mendSet 19 = .ok (.aload_n 0, 1) := by decide +kernel
theorem dX7_mendSet_20 : decode cX7_mendSet 20 = .ok (.iload_n 2, 1) := by decide +kernel
theorem dX7_mendSet_21 : decode cX7_mendSet 21 = .ok (.invokevirtual 174, 3) := by decide +kernel
theorem dX7_mendSet_24 : decode cX7_mendSet 24 = .ok (.ifCond .eq 9, 3) := by decide +kernel
theorem dX7_mendSet_27 : decode cX7_mendSet 27 = .ok (.iconst 1, 1) := by decide +kernel
theorem dX7_mendSet_28 : decode cX7_mendSet 28 = .ok (.iload_n 2, 1) := by decide +kernel
theorem dX7_mendSet_29 : decode cX7_mendSet 29 = .ok (.ishl, 1) := by decide +kernel
theorem dX7_mendSet_30 : decode cX7_mendSet 30 = .ok (.goto 4, 3) := by decide +kernel
theorem dX7_mendSet_33 : decode cX7_mendSet 33 = .ok (.iconst 0, 1) := by decide +kernel
theorem dX7_mendSet_34 : decode cX7_mendSet 34 = .ok (.ior, 1) := by decide +kernel
theorem dX7_mendSet_35 : decode cX7_mendSet 35 = .ok (.istore_n 1, 1) := by decide +kernel
theorem dX7_mendSet_36 : decode cX7_mendSet 36 = .ok (.iinc 2 1, 3) := by decide +kernel
theorem dX7_mendSet_39 : decode cX7_mendSet 39 = .ok (.goto (-31), 3) := by decide +kernel
theorem dX7_mendSet_42 : decode cX7_mendSet 42 = .ok (.iconst (-1), 1) := by decide +kernel
theorem dX7_mendSet_43 : decode cX7_mendSet 43 = .ok (.istore_n 2, 1) := by decide +kernel
theorem dX7_mendSet_44 : decode cX7_mendSet 44 = .ok (.iconst 4, 1) := by decide +kernel
theorem dX7_mendSet_45 : decode cX7_mendSet 45 = .ok (.istore_n 3, 1) := by decide +kernel
theorem dX7_mendSet_46 : decode cX7_mendSet 46 = .ok (.iload_n 1, 1) := by decide +kernel
theorem dX7_mendSet_47 : decode cX7_mendSet 47 = .ok (.istore 4, 2) := by decide +kernel
theorem dX7_mendSet_49 : decode cX7_mendSet 49 = .ok (.iload 4, 2) := by decide +kernel
theorem dX7_mendSet_51 : decode cX7_mendSet 51 = .ok (.ifCond .lt 67, 3) := by decide +kernel
theorem dX7_mendSet_54 : decode cX7_mendSet 54 = .ok (.iload 4, 2) := by decide +kernel
theorem dX7_mendSet_56 : decode cX7_mendSet 56 = .ok (.invokestatic 156, 3) := by decide +kernel
theorem dX7_mendSet_59 : decode cX7_mendSet 59 = .ok (.iload_n 3, 1) := by decide +kernel
theorem dX7_mendSet_60 : decode cX7_mendSet 60 = .ok (.if_icmp .gt 38, 3) := by decide +kernel
theorem dX7_mendSet_63 : decode cX7_mendSet 63 = .ok (.iload 4, 2) := by decide +kernel
theorem dX7_mendSet_65 : decode cX7_mendSet 65 = .ok (.invokestatic 156, 3) := by decide +kernel
theorem dX7_mendSet_68 : decode cX7_mendSet 68 = .ok (.iconst 4, 1) := by decide +kernel
theorem dX7_mendSet_69 : decode cX7_mendSet 69 = .ok (.if_icmp .ge 29, 3) := by decide +kernel
theorem dX7_mendSet_72 : decode cX7_mendSet 72 = .ok (.aload_n 0, 1) := by decide +kernel
theorem dX7_mendSet_73 : decode cX7_mendSet 73 = .ok (.iload 4, 2) := by decide +kernel
theorem dX7_mendSet_75 : decode cX7_mendSet 75 = .ok (.putfield 136, 3) := by decide +kernel
theorem dX7_mendSet_78 : decode cX7_mendSet 78 = .ok (.aload_n 0, 1) := by decide +kernel
theorem dX7_mendSet_79 : decode cX7_mendSet 79 = .ok (.invokevirtual 195, 3) := by decide +kernel
theorem dX7_mendSet_82 : decode cX7_mendSet 82 = .ok (.aload_n 0, 1) := by decide +kernel
theorem dX7_mendSet_83 : decode cX7_mendSet 83 = .ok (.getfield 165, 3) := by decide +kernel
theorem dX7_mendSet_86 : decode cX7_mendSet 86 = .ok (.ifCond .ne 12, 3) := by decide +kernel
theorem dX7_mendSet_89 : decode cX7_mendSet 89 = .ok (.iload 4, 2) := by decide +kernel
theorem dX7_mendSet_91 : decode cX7_mendSet 91 = .ok (.istore_n 2, 1) := by decide +kernel
theorem dX7_mendSet_92 : decode cX7_mendSet 92 = .ok (.iload 4, 2) := by decide +kernel
theorem dX7_mendSet_94 : decode cX7_mendSet 94 = .ok (.invokestatic 156, 3) := by decide +kernel
theorem dX7_mendSet_97 : decode cX7_mendSet 97 = .ok (.istore_n 3, 1) := by decide +kernel
theorem dX7_mendSet_98 : decode cX7_mendSet 98 = .ok (.iload 4, 2) := by decide +kernel
theorem dX7_mendSet_100 : decode cX7_mendSet 100 = .ok (.ifCond .ne 7, 3) := by decide +kernel
theorem dX7_mendSet_103 : decode cX7_mendSet 103 = .ok (.iconst (-1), 1) := by decide +kernel
theorem dX7_mendSet_104 : decode cX7_mendSet 104 = .ok (.goto 9, 3) := by decide +kernel
theorem dX7_mendSet_107 : decode cX7_mendSet 107 = .ok (.iload 4, 2) := by decide +kernel
theorem dX7_mendSet_109 : decode cX7_mendSet 109 = .ok (.iconst 1, 1) := by decide +kernel
theorem dX7_mendSet_110 : decode cX7_mendSet 110 = .ok (.isub, 1) := by decide +kernel
theorem dX7_mendSet_111 : decode cX7_mendSet 111 = .ok (.iload_n 1, 1) := by decide +kernel
theorem dX7_mendSet_112 : decode cX7_mendSet 112 = .ok (.iand, 1) := by decide +kernel
theorem dX7_mendSet_113 : decode cX7_mendSet 113 = .ok (.istore 4, 2) := by decide +kernel
theorem dX7_mendSet_115 : decode cX7_mendSet 115 = .ok (.goto (-66), 3) := by decide +kernel
theorem dX7_mendSet_118 : decode cX7_mendSet 118 = .ok (.iload_n 2, 1) := by decide +kernel
theorem dX7_mendSet_119 : decode cX7_mendSet 119 = .ok (.ireturn, 1) := by decide +kernel
theorem dX7_mendNow_0 : decode cX7_mendNow 0 = .ok (.aload_n 0, 1) := by decide +kernel
theorem dX7_mendNow_1 : decode cX7_mendNow 1 = .ok (.dup, 1) := by decide +kernel
theorem dX7_mendNow_2 : decode cX7_mendNow 2 = .ok (.getfield 283, 3) := by decide +kernel
theorem dX7_mendNow_5 : decode cX7_mendNow 5 = .ok (.iconst 1, 1) := by decide +kernel
theorem dX7_mendNow_6 : decode cX7_mendNow 6 = .ok (.iadd, 1) := by decide +kernel
theorem dX7_mendNow_7 : decode cX7_mendNow 7 = .ok (.putfield 283, 3) := by decide +kernel
theorem dX7_mendNow_10 : decode cX7_mendNow 10 = .ok (.aload_n 0, 1) := by decide +kernel
theorem dX7_mendNow_11 : decode cX7_mendNow 11 = .ok (.invokevirtual 286, 3) := by decide +kernel
theorem dX7_mendNow_14 : decode cX7_mendNow 14 = .ok (.istore_n 2, 1) := by decide +kernel
theorem dX7_mendNow_15 : decode cX7_mendNow 15 = .ok (.iload_n 2, 1) := by decide +kernel
theorem dX7_mendNow_16 : decode cX7_mendNow 16 = .ok (.iconst (-1), 1) := by decide +kernel
theorem dX7_mendNow_17 : decode cX7_mendNow 17 = .ok (.if_icmp .ne 7, 3) := by decide +kernel
theorem dX7_mendNow_20 : decode cX7_mendNow 20 = .ok (.iconst (-1), 1) := by decide +kernel
theorem dX7_mendNow_21 : decode cX7_mendNow 21 = .ok (.goto 15, 3) := by decide +kernel
theorem dX7_mendNow_24 : decode cX7_mendNow 24 = .ok (.iload_n 1, 1) := by decide +kernel
theorem dX7_mendNow_25 : decode cX7_mendNow 25 = .ok (.ifCond .ne 10, 3) := by decide +kernel
theorem dX7_mendNow_28 : decode cX7_mendNow 28 = .ok (.iload_n 2, 1) := by decide +kernel
theorem dX7_mendNow_29 : decode cX7_mendNow 29 = .ok (.invokestatic 156, 3) := by decide +kernel
theorem dX7_mendNow_32 : decode cX7_mendNow 32 = .ok (.goto 4, 3) := by decide +kernel
theorem dX7_mendNow_35 : decode cX7_mendNow 35 = .ok (.iload_n 2, 1) := by decide +kernel
theorem dX7_mendNow_36 : decode cX7_mendNow 36 = .ok (.ireturn, 1) := by decide +kernel
theorem dX7_mend_0 : decode cX7_mend 0 = .ok (.iload_n 1, 1) := by decide +kernel
theorem dX7_mend_1 : decode cX7_mend 1 = .ok (.iconst 0, 1) := by decide +kernel
theorem dX7_mend_2 : decode cX7_mend 2 = .ok (.iconst 1, 1) := by decide +kernel
theorem dX7_mend_3 : decode cX7_mend 3 = .ok (.invokestatic 89, 3) := by decide +kernel
theorem dX7_mend_6 : decode cX7_mend 6 = .ok (.ifCond .ne 6, 3) := by decide +kernel
theorem dX7_mend_9 : decode cX7_mend 9 = .ok (.bipush (-102), 2) := by decide +kernel
theorem dX7_mend_11 : decode cX7_mend 11 = .ok (.ireturn, 1) := by decide +kernel
theorem dX7_mend_12 : decode cX7_mend 12 = .ok (.aload_n 0, 1) := by decide +kernel
theorem dX7_mend_13 : decode cX7_mend 13 = .ok (.getfield 121, 3) := by decide +kernel
theorem dX7_mend_16 : decode cX7_mend 16 = .ok (.ifCond .eq 11, 3) := by decide +kernel
theorem dX7_mend_19 : decode cX7_mend 19 = .ok (.aload_n 0, 1) := by decide +kernel
theorem dX7_mend_20 : decode cX7_mend 20 = .ok (.getfield 283, 3) := by decide +kernel
theorem dX7_mend_23 : decode cX7_mend 23 = .ok (.iconst 5, 1) := by decide +kernel
theorem dX7_mend_24 : decode cX7_mend 24 = .ok (.if_icmp .ne 8, 3) := by decide +kernel
theorem dX7_mend_27 : decode cX7_mend 27 = .ok (.bipush (-103), 2) := by decide +kernel
theorem dX7_mend_29 : decode cX7_mend 29 = .ok (.goto 8, 3) := by decide +kernel
theorem dX7_mend_32 : decode cX7_mend 32 = .ok (.aload_n 0, 1) := by decide +kernel
theorem dX7_mend_33 : decode cX7_mend 33 = .ok (.iload_n 1, 1) := by decide +kernel
theorem dX7_mend_34 : decode cX7_mend 34 = .ok (.invokevirtual 289, 3) := by decide +kernel
theorem dX7_mend_37 : decode cX7_mend 37 = .ok (.ireturn, 1) := by decide +kernel
theorem dX7_could_0 : decode cX7_could 0 = .ok (.iload_n 0, 1) := by decide +kernel
theorem dX7_could_1 : decode cX7_could 1 = .ok (.iconst 2, 1) := by decide +kernel
theorem dX7_could_2 : decode cX7_could 2 = .ok (.if_icmp .ne 14, 3) := by decide +kernel
theorem dX7_could_5 : decode cX7_could 5 = .ok (.iload_n 2, 1) := by decide +kernel
theorem dX7_could_6 : decode cX7_could 6 = .ok (.iconst 2, 1) := by decide +kernel
theorem dX7_could_7 : decode cX7_could 7 = .ok (.if_icmp .ne 7, 3) := by decide +kernel
theorem dX7_could_10 : decode cX7_could 10 = .ok (.iconst 1, 1) := by decide +kernel
theorem dX7_could_11 : decode cX7_could 11 = .ok (.goto 4, 3) := by decide +kernel
theorem dX7_could_14 : decode cX7_could 14 = .ok (.iconst 0, 1) := by decide +kernel
theorem dX7_could_15 : decode cX7_could 15 = .ok (.ireturn, 1) := by decide +kernel
theorem dX7_could_16 : decode cX7_could 16 = .ok (.iload_n 2, 1) := by decide +kernel
theorem dX7_could_17 : decode cX7_could 17 = .ok (.iconst 2, 1) := by decide +kernel
theorem dX7_could_18 : decode cX7_could 18 = .ok (.if_icmp .ge 22, 3) := by decide +kernel
theorem dX7_could_21 : decode cX7_could 21 = .ok (.iload_n 0, 1) := by decide +kernel
theorem dX7_could_22 : decode cX7_could 22 = .ok (.iconst 1, 1) := by decide +kernel
theorem dX7_could_23 : decode cX7_could 23 = .ok (.if_icmp .eq 13, 3) := by decide +kernel
theorem dX7_could_26 : decode cX7_could 26 = .ok (.iload_n 0, 1) := by decide +kernel
theorem dX7_could_27 : decode cX7_could 27 = .ok (.iload_n 1, 1) := by decide +kernel
theorem dX7_could_28 : decode cX7_could 28 = .ok (.iconst 0, 1) := by decide +kernel
theorem dX7_could_29 : decode cX7_could 29 = .ok (.invokestatic 220, 3) := by decide +kernel
theorem dX7_could_32 : decode cX7_could 32 = .ok (.iload_n 2, 1) := by decide +kernel
theorem dX7_could_33 : decode cX7_could 33 = .ok (.if_icmp .ne 7, 3) := by decide +kernel
theorem dX7_could_36 : decode cX7_could 36 = .ok (.iconst 1, 1) := by decide +kernel
theorem dX7_could_37 : decode cX7_could 37 = .ok (.goto 4, 3) := by decide +kernel
theorem dX7_could_40 : decode cX7_could 40 = .ok (.iconst 0, 1) := by decide +kernel
theorem dX7_could_41 : decode cX7_could 41 = .ok (.ireturn, 1) := by decide +kernel
theorem dX7_see_0 : decode cX7_see 0 = .ok (.aload_n 0, 1) := by decide +kernel
theorem dX7_see_1 : decode cX7_see 1 = .ok (.iload_n 1, 1) := by decide +kernel
theorem dX7_see_2 : decode cX7_see 2 = .ok (.invokevirtual 207, 3) := by decide +kernel
theorem dX7_see_5 : decode cX7_see 5 = .ok (.ifCond .ne 6, 3) := by decide +kernel
theorem dX7_see_8 : decode cX7_see 8 = .ok (.bipush (-101), 2) := by decide +kernel
theorem dX7_see_10 : decode cX7_see 10 = .ok (.ireturn, 1) := by decide +kernel
theorem dX7_see_11 : decode cX7_see 11 = .ok (.iload_n 2, 1) := by decide +kernel
theorem dX7_see_12 : decode cX7_see 12 = .ok (.iconst 1, 1) := by decide +kernel
theorem dX7_see_13 : decode cX7_see 13 = .ok (.iconst 3, 1) := by decide +kernel
theorem dX7_see_14 : decode cX7_see 14 = .ok (.invokestatic 89, 3) := by decide +kernel
theorem dX7_see_17 : decode cX7_see 17 = .ok (.ifCond .eq 12, 3) := by decide +kernel
theorem dX7_see_20 : decode cX7_see 20 = .ok (.iload_n 3, 1) := by decide +kernel
theorem dX7_see_21 : decode cX7_see 21 = .ok (.iconst 0, 1) := by decide +kernel
theorem dX7_see_22 : decode cX7_see 22 = .ok (.iconst 2, 1) := by decide +kernel
theorem dX7_see_23 : decode cX7_see 23 = .ok (.invokestatic 89, 3) := by decide +kernel
theorem dX7_see_26 : decode cX7_see 26 = .ok (.ifCond .ne 6, 3) := by decide +kernel
theorem dX7_see_29 : decode cX7_see 29 = .ok (.bipush (-102), 2) := by decide +kernel
theorem dX7_see_31 : decode cX7_see 31 = .ok (.ireturn, 1) := by decide +kernel
theorem dX7_see_32 : decode cX7_see 32 = .ok (.aload_n 0, 1) := by decide +kernel
theorem dX7_see_33 : decode cX7_see 33 = .ok (.getfield 130, 3) := by decide +kernel
theorem dX7_see_36 : decode cX7_see 36 = .ok (.bipush 6, 2) := by decide +kernel
theorem dX7_see_38 : decode cX7_see 38 = .ok (.if_icmp .ne 6, 3) := by decide +kernel
theorem dX7_see_41 : decode cX7_see 41 = .ok (.bipush (-104), 2) := by decide +kernel
theorem dX7_see_43 : decode cX7_see 43 = .ok (.ireturn, 1) := by decide +kernel
theorem dX7_see_44 : decode cX7_see 44 = .ok (.aload_n 0, 1) := by decide +kernel
theorem dX7_see_45 : decode cX7_see 45 = .ok (.getfield 19, 3) := by decide +kernel
theorem dX7_see_48 : decode cX7_see 48 = .ok (.aload_n 0, 1) := by decide +kernel
theorem dX7_see_49 : decode cX7_see 49 = .ok (.getfield 130, 3) := by decide +kernel
theorem dX7_see_52 : decode cX7_see 52 = .ok (.iload_n 1, 1) := by decide +kernel
theorem dX7_see_53 : decode cX7_see 53 = .ok (.iastore, 1) := by decide +kernel
theorem dX7_see_54 : decode cX7_see 54 = .ok (.aload_n 0, 1) := by decide +kernel
theorem dX7_see_55 : decode cX7_see 55 = .ok (.getfield 22, 3) := by decide +kernel
theorem dX7_see_58 : decode cX7_see 58 = .ok (.aload_n 0, 1) := by decide +kernel
theorem dX7_see_59 : decode cX7_see 59 = .ok (.getfield 130, 3) := by decide +kernel
theorem dX7_see_62 : decode cX7_see 62 = .ok (.iload_n 2, 1) := by decide +kernel
theorem dX7_see_63 : decode cX7_see 63 = .ok (.iastore, 1) := by decide +kernel
theorem dX7_see_64 : decode cX7_see 64 = .ok (.aload_n 0, 1) := by decide +kernel
theorem dX7_see_65 : decode cX7_see 65 = .ok (.getfield 25, 3) := by decide +kernel
theorem dX7_see_68 : decode cX7_see 68 = .ok (.aload_n 0, 1) := by decide +kernel
theorem dX7_see_69 : decode cX7_see 69 = .ok (.getfield 130, 3) := by decide +kernel
theorem dX7_see_72 : decode cX7_see 72 = .ok (.iload_n 3, 1) := by decide +kernel
theorem dX7_see_73 : decode cX7_see 73 = .ok (.iastore, 1) := by decide +kernel
theorem dX7_see_74 : decode cX7_see 74 = .ok (.aload_n 0, 1) := by decide +kernel
theorem dX7_see_75 : decode cX7_see 75 = .ok (.dup, 1) := by decide +kernel
theorem dX7_see_76 : decode cX7_see 76 = .ok (.getfield 130, 3) := by decide +kernel
theorem dX7_see_79 : decode cX7_see 79 = .ok (.iconst 1, 1) := by decide +kernel
theorem dX7_see_80 : decode cX7_see 80 = .ok (.iadd, 1) := by decide +kernel
theorem dX7_see_81 : decode cX7_see 81 = .ok (.putfield 130, 3) := by decide +kernel
theorem dX7_see_84 : decode cX7_see 84 = .ok (.aload_n 0, 1) := by decide +kernel
theorem dX7_see_85 : decode cX7_see 85 = .ok (.getfield 130, 3) := by decide +kernel
theorem dX7_see_88 : decode cX7_see 88 = .ok (.ireturn, 1) := by decide +kernel
theorem dX7_forget_0 : decode cX7_forget 0 = .ok (.aload_n 0, 1) := by decide +kernel
theorem dX7_forget_1 : decode cX7_forget 1 = .ok (.getfield 130, 3) := by decide +kernel
theorem dX7_forget_4 : decode cX7_forget 4 = .ok (.istore_n 1, 1) := by decide +kernel
theorem dX7_forget_5 : decode cX7_forget 5 = .ok (.aload_n 0, 1) := by decide +kernel
theorem dX7_forget_6 : decode cX7_forget 6 = .ok (.iconst 0, 1) := by decide +kernel
theorem dX7_forget_7 : decode cX7_forget 7 = .ok (.putfield 130, 3) := by decide +kernel
theorem dX7_forget_10 : decode cX7_forget 10 = .ok (.iload_n 1, 1) := by decide +kernel
theorem dX7_forget_11 : decode cX7_forget 11 = .ok (.ireturn, 1) := by decide +kernel
theorem dX7_sortsOf_0 : decode cX7_sortsOf 0 = .ok (.iconst 0, 1) := by decide +kernel
theorem dX7_sortsOf_1 : decode cX7_sortsOf 1 = .ok (.istore_n 2, 1) := by decide +kernel
theorem dX7_sortsOf_2 : decode cX7_sortsOf 2 = .ok (.iconst 0, 1) := by decide +kernel
theorem dX7_sortsOf_3 : decode cX7_sortsOf 3 = .ok (.istore_n 3, 1) := by decide +kernel
theorem dX7_sortsOf_4 : decode cX7_sortsOf 4 = .ok (.iload_n 3, 1) := by decide +kernel
theorem dX7_sortsOf_5 : decode cX7_sortsOf 5 = .ok (.iconst 4, 1) := by decide +kernel
theorem dX7_sortsOf_6 : decode cX7_sortsOf 6 = .ok (.if_icmp .gt 89, 3) := by decide +kernel
theorem dX7_sortsOf_9 : decode cX7_sortsOf 9 = .ok (.iconst 1, 1) := by decide +kernel
theorem dX7_sortsOf_10 : decode cX7_sortsOf 10 = .ok (.istore 4, 2) := by decide +kernel
theorem dX7_sortsOf_12 : decode cX7_sortsOf 12 = .ok (.iconst 0, 1) := by decide +kernel
theorem dX7_sortsOf_13 : decode cX7_sortsOf 13 = .ok (.istore 5, 2) := by decide +kernel
theorem dX7_sortsOf_15 : decode cX7_sortsOf 15 = .ok (.iload 5, 2) := by decide +kernel
theorem dX7_sortsOf_17 : decode cX7_sortsOf 17 = .ok (.aload_n 0, 1) := by decide +kernel
theorem dX7_sortsOf_18 : decode cX7_sortsOf 18 = .ok (.getfield 130, 3) := by decide +kernel
theorem dX7_sortsOf_21 : decode cX7_sortsOf 21 = .ok (.if_icmp .ge 53, 3) := by decide +kernel
theorem dX7_sortsOf_24 : decode cX7_sortsOf 24 = .ok (.iload 4, 2) := by decide +kernel
theorem dX7_sortsOf_26 : decode cX7_sortsOf 26 = .ok (.ifCond .eq 39, 3) := by decide +kernel
theorem dX7_sortsOf_29 : decode cX7_sortsOf 29 = .ok (.aload_n 0, 1) := by decide +kernel
theorem dX7_sortsOf_30 : decode cX7_sortsOf 30 = .ok (.getfield 19, 3) := by decide +kernel
theorem dX7_sortsOf_33 : decode cX7_sortsOf 33 = .ok (.iload 5, 2) := by decide +kernel
theorem dX7_sortsOf_35 : decode cX7_sortsOf 35 = .ok (.iaload, 1) := by decide +kernel
theorem dX7_sortsOf_36 : decode cX7_sortsOf 36 = .ok (.iload_n 1, 1) := by decide +kernel
theorem dX7_sortsOf_37 : decode cX7_sortsOf 37 = .ok (.if_icmp .ne 24, 3) := by decide +kernel
theorem dX7_sortsOf_40 : decode cX7_sortsOf 40 = .ok (.iload_n 3, 1) := by decide +kernel
theorem dX7_sortsOf_41 : decode cX7_sortsOf 41 = .ok (.aload_n 0, 1) := by decide +kernel
theorem dX7_sortsOf_42 : decode cX7_sortsOf 42 = .ok (.getfield 22, 3) := by decide +kernel
theorem dX7_sortsOf_45 : decode cX7_sortsOf 45 = .ok (.iload 5, 2) := by decide +kernel
theorem dX7_sortsOf_47 : decode cX7_sortsOf 47 = .ok (.iaload, 1) := by decide +kernel
theorem dX7_sortsOf_48 : decode cX7_sortsOf 48 = .ok (.aload_n 0, 1) := by decide +kernel
theorem dX7_sortsOf_49 : decode cX7_sortsOf 49 = .ok (.getfield 25, 3) := by decide +kernel
theorem dX7_sortsOf_52 : decode cX7_sortsOf 52 = .ok (.iload 5, 2) := by decide +kernel
theorem dX7_sortsOf_54 : decode cX7_sortsOf 54 = .ok (.iaload, 1) := by decide +kernel
theorem dX7_sortsOf_55 : decode cX7_sortsOf 55 = .ok (.invokestatic 292, 3) := by decide +kernel
theorem dX7_sortsOf_58 : decode cX7_sortsOf 58 = .ok (.ifCond .eq 7, 3) := by decide +kernel
theorem dX7_sortsOf_61 : decode cX7_sortsOf 61 = .ok (.iconst 1, 1) := by decide +kernel
theorem dX7_sortsOf_62 : decode cX7_sortsOf 62 = .ok (.goto 4, 3) := by decide +kernel
theorem dX7_sortsOf_65 : decode cX7_sortsOf 65 = .ok (.iconst 0, 1) := by decide +kernel
theorem dX7_sortsOf_66 : decode cX7_sortsOf 66 = .ok (.istore 4, 2) := by decide +kernel
theorem dX7_sortsOf_68 : decode cX7_sortsOf 68 = .ok (.iinc 5 1, 3) := by decide +kernel
theorem dX7_sortsOf_71 : decode cX7_sortsOf 71 = .ok (.goto (-56), 3) := by decide +kernel
theorem dX7_sortsOf_74 : decode cX7_sortsOf 74 = .ok (.iload_n 2, 1) := by decide +kernel
theorem dX7_sortsOf_75 : decode cX7_sortsOf 75 = .ok (.iload 4, 2) := by decide +kernel
theorem dX7_sortsOf_77 : decode cX7_sortsOf 77 = .ok (.ifCond .eq 9, 3) := by decide +kernel
theorem dX7_sortsOf_80 : decode cX7_sortsOf 80 = .ok (.iconst 1, 1) := by decide +kernel
theorem dX7_sortsOf_81 : decode cX7_sortsOf 81 = .ok (.iload_n 3, 1) := by decide +kernel
theorem dX7_sortsOf_82 : decode cX7_sortsOf 82 = .ok (.ishl, 1) := by decide +kernel
theorem dX7_sortsOf_83 : decode cX7_sortsOf 83 = .ok (.goto 4, 3) := by decide +kernel
theorem dX7_sortsOf_86 : decode cX7_sortsOf 86 = .ok (.iconst 0, 1) := by decide +kernel
theorem dX7_sortsOf_87 : decode cX7_sortsOf 87 = .ok (.ior, 1) := by decide +kernel
theorem dX7_sortsOf_88 : decode cX7_sortsOf 88 = .ok (.istore_n 2, 1) := by decide +kernel
theorem dX7_sortsOf_89 : decode cX7_sortsOf 89 = .ok (.iinc 3 1, 3) := by decide +kernel
theorem dX7_sortsOf_92 : decode cX7_sortsOf 92 = .ok (.goto (-88), 3) := by decide +kernel
theorem dX7_sortsOf_95 : decode cX7_sortsOf 95 = .ok (.iload_n 2, 1) := by decide +kernel
theorem dX7_sortsOf_96 : decode cX7_sortsOf 96 = .ok (.ireturn, 1) := by decide +kernel
theorem dX7_askOf_0 : decode cX7_askOf 0 = .ok (.aload_n 0, 1) := by decide +kernel
theorem dX7_askOf_1 : decode cX7_askOf 1 = .ok (.iload_n 1, 1) := by decide +kernel
theorem dX7_askOf_2 : decode cX7_askOf 2 = .ok (.invokevirtual 201, 3) := by decide +kernel
theorem dX7_askOf_5 : decode cX7_askOf 5 = .ok (.istore_n 2, 1) := by decide +kernel
theorem dX7_askOf_6 : decode cX7_askOf 6 = .ok (.iconst (-1), 1) := by decide +kernel
theorem dX7_askOf_7 : decode cX7_askOf 7 = .ok (.istore_n 3, 1) := by decide +kernel
theorem dX7_askOf_8 : decode cX7_askOf 8 = .ok (.ldc_w 295, 3) := by decide +kernel
theorem dX7_askOf_11 : decode cX7_askOf 11 = .ok (.istore 4, 2) := by decide +kernel
theorem dX7_askOf_13 : decode cX7_askOf 13 = .ok (.iconst 1, 1) := by decide +kernel
theorem dX7_askOf_14 : decode cX7_askOf 14 = .ok (.istore 5, 2) := by decide +kernel
theorem dX7_askOf_16 : decode cX7_askOf 16 = .ok (.iload 5, 2) := by decide +kernel
theorem dX7_askOf_18 : decode cX7_askOf 18 = .ok (.iconst 4, 1) := by decide +kernel
theorem dX7_askOf_19 : decode cX7_askOf 19 = .ok (.if_icmp .ge 126, 3) := by decide +kernel
theorem dX7_askOf_22 : decode cX7_askOf 22 = .ok (.iload_n 2, 1) := by decide +kernel
theorem dX7_askOf_23 : decode cX7_askOf 23 = .ok (.ifCond .eq 122, 3) := by decide +kernel
theorem dX7_askOf_26 : decode cX7_askOf 26 = .ok (.iconst 0, 1) := by decide +kernel
theorem dX7_askOf_27 : decode cX7_askOf 27 = .ok (.istore 6, 2) := by decide +kernel
theorem dX7_askOf_29 : decode cX7_askOf 29 = .ok (.iconst 0, 1) := by decide +kernel
theorem dX7_askOf_30 : decode cX7_askOf 30 = .ok (.istore 7, 2) := by decide +kernel
theorem dX7_askOf_32 : decode cX7_askOf 32 = .ok (.iload 7, 2) := by decide +kernel
theorem dX7_askOf_34 : decode cX7_askOf 34 = .ok (.iconst 3, 1) := by decide +kernel
theorem dX7_askOf_35 : decode cX7_askOf 35 = .ok (.if_icmp .ge 74, 3) := by decide +kernel
theorem dX7_askOf_38 : decode cX7_askOf 38 = .ok (.iconst 0, 1) := by decide +kernel
theorem dX7_askOf_39 : decode cX7_askOf 39 = .ok (.istore 8, 2) := by decide +kernel
theorem dX7_askOf_41 : decode cX7_askOf 41 = .ok (.iconst 0, 1) := by decide +kernel
theorem dX7_askOf_42 : decode cX7_askOf 42 = .ok (.istore 9, 2) := by decide +kernel
theorem dX7_askOf_44 : decode cX7_askOf 44 = .ok (.iload 9, 2) := by decide +kernel
theorem dX7_askOf_46 : decode cX7_askOf 46 = .ok (.iconst 4, 1) := by decide +kernel
theorem dX7_askOf_47 : decode cX7_askOf 47 = .ok (.if_icmp .gt 40, 3) := by decide +kernel
theorem dX7_askOf_50 : decode cX7_askOf 50 = .ok (.iload 8, 2) := by decide +kernel
theorem dX7_askOf_52 : decode cX7_askOf 52 = .ok (.iload_n 2, 1) := by decide +kernel
theorem dX7_askOf_53 : decode cX7_askOf 53 = .ok (.iload 9, 2) := by decide +kernel
theorem dX7_askOf_55 : decode cX7_askOf 55 = .ok (.invokestatic 139, 3) := by decide +kernel
theorem dX7_askOf_58 : decode cX7_askOf 58 = .ok (.ifCond .eq 19, 3) := by decide +kernel
theorem dX7_askOf_61 : decode cX7_askOf 61 = .ok (.iload 9, 2) := by decide +kernel
theorem dX7_askOf_63 : decode cX7_askOf 63 = .ok (.iload 5, 2) := by decide +kernel
theorem dX7_askOf_65 : decode cX7_askOf 65 = .ok (.iload 7, 2) := by decide +kernel
theorem dX7_askOf_67 : decode cX7_askOf 67 = .ok (.invokestatic 292, 3) := by decide +kernel
theorem dX7_askOf_70 : decode cX7_askOf 70 = .ok (.ifCond .eq 7, 3) := by decide +kernel
theorem dX7_askOf_73 : decode cX7_askOf 73 = .ok (.iconst 1, 1) := by decide +kernel
theorem dX7_askOf_74 : decode cX7_askOf 74 = .ok (.goto 4, 3) := by decide +kernel
theorem dX7_askOf_77 : decode cX7_askOf 77 = .ok (.iconst 0, 1) := by decide +kernel
theorem dX7_askOf_78 : decode cX7_askOf 78 = .ok (.iadd, 1) := by decide +kernel
theorem dX7_askOf_79 : decode cX7_askOf 79 = .ok (.istore 8, 2) := by decide +kernel
theorem dX7_askOf_81 : decode cX7_askOf 81 = .ok (.iinc 9 1, 3) := by decide +kernel
theorem dX7_askOf_84 : decode cX7_askOf 84 = .ok (.goto (-40), 3) := by decide +kernel
theorem dX7_askOf_87 : decode cX7_askOf 87 = .ok (.iload 8, 2) := by decide +kernel
theorem dX7_askOf_89 : decode cX7_askOf 89 = .ok (.iload 6, 2) := by decide +kernel
theorem dX7_askOf_91 : decode cX7_askOf 91 = .ok (.if_icmp .le 8, 3) := by decide +kernel
theorem dX7_askOf_94 : decode cX7_askOf 94 = .ok (.iload 8, 2) := by decide +kernel
theorem dX7_askOf_96 : decode cX7_askOf 96 = .ok (.goto 5, 3) := by decide +kernel
theorem dX7_askOf_99 : decode cX7_askOf 99 = .ok (.iload 6, 2) := by decide +kernel
theorem dX7_askOf_101 : decode cX7_askOf 101 = .ok (.istore 6, 2) := by decide +kernel
theorem dX7_askOf_103 : decode cX7_askOf 103 = .ok (.iinc 7 1, 3) := by decide +kernel
theorem dX7_askOf_106 : decode cX7_askOf 106 = .ok (.goto (-74), 3) := by decide +kernel
theorem dX7_askOf_109 : decode cX7_askOf 109 = .ok (.iload 6, 2) := by decide +kernel
theorem dX7_askOf_111 : decode cX7_askOf 111 = .ok (.iload 4, 2) := by decide +kernel
theorem dX7_askOf_113 : decode cX7_askOf 113 = .ok (.if_icmp .ge 8, 3) := by decide +kernel
theorem dX7_askOf_116 : decode cX7_askOf 116 = .ok (.iload 5, 2) := by decide +kernel
theorem dX7_askOf_118 : decode cX7_askOf 118 = .ok (.goto 4, 3) := by decide +kernel
theorem dX7_askOf_121 : decode cX7_askOf 121 = .ok (.iload_n 3, 1) := by decide +kernel
theorem dX7_askOf_122 : decode cX7_askOf 122 = .ok (.istore_n 3, 1) := by decide +kernel
theorem dX7_askOf_123 : decode cX7_askOf 123 = .ok (.iload 6, 2) := by decide +kernel
theorem dX7_askOf_125 : decode cX7_askOf 125 = .ok (.iload 4, 2) := by decide +kernel
theorem dX7_askOf_127 : decode cX7_askOf 127 = .ok (.if_icmp .ge 8, 3) := by decide +kernel
theorem dX7_askOf_130 : decode cX7_askOf 130 = .ok (.iload 6, 2) := by decide +kernel
theorem dX7_askOf_132 : decode cX7_askOf 132 = .ok (.goto 5, 3) := by decide +kernel
theorem dX7_askOf_135 : decode cX7_askOf 135 = .ok (.iload 4, 2) := by decide +kernel
theorem dX7_askOf_137 : decode cX7_askOf 137 = .ok (.istore 4, 2) := by decide +kernel
theorem dX7_askOf_139 : decode cX7_askOf 139 = .ok (.iinc 5 1, 3) := by decide +kernel
theorem dX7_askOf_142 : decode cX7_askOf 142 = .ok (.goto (-126), 3) := by decide +kernel
theorem dX7_askOf_145 : decode cX7_askOf 145 = .ok (.iload_n 3, 1) := by decide +kernel
theorem dX7_askOf_146 : decode cX7_askOf 146 = .ok (.ireturn, 1) := by decide +kernel
theorem dX7_draw_0 : decode cX7_draw 0 = .ok (.aload_n 0, 1) := by decide +kernel
theorem dX7_draw_1 : decode cX7_draw 1 = .ok (.ldc2_w 296, 3) := by decide +kernel
theorem dX7_draw_4 : decode cX7_draw 4 = .ok (.aload_n 0, 1) := by decide +kernel
theorem dX7_draw_5 : decode cX7_draw 5 = .ok (.getfield 298, 3) := by decide +kernel
theorem dX7_draw_8 : decode cX7_draw 8 = .ok (.lmul, 1) := by decide +kernel
theorem dX7_draw_9 : decode cX7_draw 9 = .ok (.ldc2_w 302, 3) := by decide +kernel
theorem dX7_draw_12 : decode cX7_draw 12 = .ok (.ladd, 1) := by decide +kernel
theorem dX7_draw_13 : decode cX7_draw 13 = .ok (.ldc2_w 304, 3) := by decide +kernel
theorem dX7_draw_16 : decode cX7_draw 16 = .ok (.land, 1) := by decide +kernel
theorem dX7_draw_17 : decode cX7_draw 17 = .ok (.putfield 298, 3) := by decide +kernel
theorem dX7_draw_20 : decode cX7_draw 20 = .ok (.aload_n 0, 1) := by decide +kernel
theorem dX7_draw_21 : decode cX7_draw 21 = .ok (.getfield 298, 3) := by decide +kernel
theorem dX7_draw_24 : decode cX7_draw 24 = .ok (.ldc2_w 306, 3) := by decide +kernel
theorem dX7_draw_27 : decode cX7_draw 27 = .ok (.ldiv, 1) := by decide +kernel
theorem dX7_draw_28 : decode cX7_draw 28 = .ok (.iload_n 1, 1) := by decide +kernel
theorem dX7_draw_29 : decode cX7_draw 29 = .ok (.i2l, 1) := by decide +kernel
theorem dX7_draw_30 : decode cX7_draw 30 = .ok (.lrem, 1) := by decide +kernel
theorem dX7_draw_31 : decode cX7_draw 31 = .ok (.l2i, 1) := by decide +kernel
theorem dX7_draw_32 : decode cX7_draw 32 = .ok (.ireturn, 1) := by decide +kernel
theorem dX7_drawnNow_0 : decode cX7_drawnNow 0 = .ok (.aload_n 0, 1) := by decide +kernel
theorem dX7_drawnNow_1 : decode cX7_drawnNow 1 = .ok (.iload_n 2, 1) := by decide +kernel
theorem dX7_drawnNow_2 : decode cX7_drawnNow 2 = .ok (.i2l, 1) := by decide +kernel
theorem dX7_drawnNow_3 : decode cX7_drawnNow 3 = .ok (.putfield 298, 3) := by decide +kernel
theorem dX7_drawnNow_6 : decode cX7_drawnNow 6 = .ok (.iconst 0, 1) := by decide +kernel
theorem dX7_drawnNow_7 : decode cX7_drawnNow 7 = .ok (.istore 4, 2) := by decide +kernel
theorem dX7_drawnNow_9 : decode cX7_drawnNow 9 = .ok (.iconst 0, 1) := by decide +kernel
theorem dX7_drawnNow_10 : decode cX7_drawnNow 10 = .ok (.istore 5, 2) := by decide +kernel
theorem dX7_drawnNow_12 : decode cX7_drawnNow 12 = .ok (.iconst 0, 1) := by decide +kernel
theorem dX7_drawnNow_13 : decode cX7_drawnNow 13 = .ok (.istore 6, 2) := by decide +kernel
theorem dX7_drawnNow_15 : decode cX7_drawnNow 15 = .ok (.iload 6, 2) := by decide +kernel
theorem dX7_drawnNow_17 : decode cX7_drawnNow 17 = .ok (.iload_n 1, 1) := by decide +kernel
theorem dX7_drawnNow_18 : decode cX7_drawnNow 18 = .ok (.if_icmp .ge 109, 3) := by decide +kernel
theorem dX7_drawnNow_21 : decode cX7_drawnNow 21 = .ok (.aload_n 0, 1) := by decide +kernel
theorem dX7_drawnNow_22 : decode cX7_drawnNow 22 = .ok (.iconst 5, 1) := by decide +kernel
theorem dX7_drawnNow_23 : decode cX7_drawnNow 23 = .ok (.putfield 133, 3) := by decide +kernel
theorem dX7_drawnNow_26 : decode cX7_drawnNow 26 = .ok (.aload_n 0, 1) := by decide +kernel
theorem dX7_drawnNow_27 : decode cX7_drawnNow 27 = .ok (.iconst 0, 1) := by decide +kernel
theorem dX7_drawnNow_28 : decode cX7_drawnNow 28 = .ok (.putfield 136, 3) := by decide +kernel
theorem dX7_drawnNow_31 : decode cX7_drawnNow 31 = .ok (.iconst 0, 1) := by decide +kernel
theorem dX7_drawnNow_32 : decode cX7_drawnNow 32 = .ok (.istore 7, 2) := by decide +kernel
theorem dX7_drawnNow_34 : decode cX7_drawnNow 34 = .ok (.iload 7, 2) := by decide +kernel
theorem dX7_drawnNow_36 : decode cX7_drawnNow 36 = .ok (.iconst 5, 1) := by decide +kernel
theorem dX7_drawnNow_37 : decode cX7_drawnNow 37 = .ok (.if_icmp .ge 51, 3) := by decide +kernel
theorem dX7_drawnNow_40 : decode cX7_drawnNow 40 = .ok (.aload_n 0, 1) := by decide +kernel
theorem dX7_drawnNow_41 : decode cX7_drawnNow 41 = .ok (.getfield 38, 3) := by decide +kernel
theorem dX7_drawnNow_44 : decode cX7_drawnNow 44 = .ok (.iload 7, 2) := by decide +kernel
theorem dX7_drawnNow_46 : decode cX7_drawnNow 46 = .ok (.aload_n 0, 1) := by decide +kernel
theorem dX7_drawnNow_47 : decode cX7_drawnNow 47 = .ok (.iconst 5, 1) := by decide +kernel
theorem dX7_drawnNow_48 : decode cX7_drawnNow 48 = .ok (.invokevirtual 308, 3) := by decide +kernel
theorem dX7_drawnNow_51 : decode cX7_drawnNow 51 = .ok (.iastore, 1) := by decide +kernel
theorem dX7_drawnNow_52 : decode cX7_drawnNow 52 = .ok (.aload_n 0, 1) := by decide +kernel
theorem dX7_drawnNow_53 : decode cX7_drawnNow 53 = .ok (.getfield 41, 3) := by decide +kernel
theorem dX7_drawnNow_56 : decode cX7_drawnNow 56 = .ok (.iconst 2, 1) := by decide +kernel
theorem dX7_drawnNow_57 : decode cX7_drawnNow 57 = .ok (.iload 7, 2) := by decide +kernel
theorem dX7_drawnNow_59 : decode cX7_drawnNow 59 = .ok (.imul, 1) := by decide +kernel
theorem dX7_drawnNow_60 : decode cX7_drawnNow 60 = .ok (.aload_n 0, 1) := by decide +kernel
theorem dX7_drawnNow_61 : decode cX7_drawnNow 61 = .ok (.iconst 5, 1) := by decide +kernel
theorem dX7_drawnNow_62 : decode cX7_drawnNow 62 = .ok (.invokevirtual 308, 3) := by decide +kernel
theorem dX7_drawnNow_65 : decode cX7_drawnNow 65 = .ok (.iastore, 1) := by decide +kernel
theorem dX7_drawnNow_66 : decode cX7_drawnNow 66 = .ok (.aload_n 0, 1) := by decide +kernel
theorem dX7_drawnNow_67 : decode cX7_drawnNow 67 = .ok (.getfield 41, 3) := by decide +kernel
theorem dX7_drawnNow_70 : decode cX7_drawnNow 70 = .ok (.iconst 2, 1) := by decide +kernel
theorem dX7_drawnNow_71 : decode cX7_drawnNow 71 = .ok (.iload 7, 2) := by decide +kernel
theorem dX7_drawnNow_73 : decode cX7_drawnNow 73 = .ok (.imul, 1) := by decide +kernel
theorem dX7_drawnNow_74 : decode cX7_drawnNow 74 = .ok (.iconst 1, 1) := by decide +kernel
theorem dX7_drawnNow_75 : decode cX7_drawnNow 75 = .ok (.iadd, 1) := by decide +kernel
theorem dX7_drawnNow_76 : decode cX7_drawnNow 76 = .ok (.aload_n 0, 1) := by decide +kernel
theorem dX7_drawnNow_77 : decode cX7_drawnNow 77 = .ok (.iconst 5, 1) := by decide +kernel
theorem dX7_drawnNow_78 : decode cX7_drawnNow 78 = .ok (.invokevirtual 308, 3) := by decide +kernel
theorem dX7_drawnNow_81 : decode cX7_drawnNow 81 = .ok (.iastore, 1) := by decide +kernel
theorem dX7_drawnNow_82 : decode cX7_drawnNow 82 = .ok (.iinc 7 1, 3) := by decide +kernel
theorem dX7_drawnNow_85 : decode cX7_drawnNow 85 = .ok (.goto (-51), 3) := by decide +kernel
theorem dX7_drawnNow_88 : decode cX7_drawnNow 88 = .ok (.aload_n 0, 1) := by decide +kernel
theorem dX7_drawnNow_89 : decode cX7_drawnNow 89 = .ok (.invokevirtual 195, 3) := by decide +kernel
theorem dX7_drawnNow_92 : decode cX7_drawnNow 92 = .ok (.iload 4, 2) := by decide +kernel
theorem dX7_drawnNow_94 : decode cX7_drawnNow 94 = .ok (.aload_n 0, 1) := by decide +kernel
theorem dX7_drawnNow_95 : decode cX7_drawnNow 95 = .ok (.getfield 165, 3) := by decide +kernel
theorem dX7_drawnNow_98 : decode cX7_drawnNow 98 = .ok (.ifCond .ne 7, 3) := by decide +kernel
theorem dX7_drawnNow_101 : decode cX7_drawnNow 101 = .ok (.iconst 1, 1) := by decide +kernel
theorem dX7_drawnNow_102 : decode cX7_drawnNow 102 = .ok (.goto 4, 3) := by decide +kernel
theorem dX7_drawnNow_105 : decode cX7_drawnNow 105 = .ok (.iconst 0, 1) := by decide +kernel
theorem dX7_drawnNow_106 : decode cX7_drawnNow 106 = .ok (.iadd, 1) := by decide +kernel
theorem dX7_drawnNow_107 : decode cX7_drawnNow 107 = .ok (.istore 4, 2) := by decide +kernel
theorem dX7_drawnNow_109 : decode cX7_drawnNow 109 = .ok (.iload 5, 2) := by decide +kernel
theorem dX7_drawnNow_111 : decode cX7_drawnNow 111 = .ok (.aload_n 0, 1) := by decide +kernel
theorem dX7_drawnNow_112 : decode cX7_drawnNow 112 = .ok (.getfield 168, 3) := by decide +kernel
theorem dX7_drawnNow_115 : decode cX7_drawnNow 115 = .ok (.invokestatic 156, 3) := by decide +kernel
theorem dX7_drawnNow_118 : decode cX7_drawnNow 118 = .ok (.iadd, 1) := by decide +kernel
theorem dX7_drawnNow_119 : decode cX7_drawnNow 119 = .ok (.istore 5, 2) := by decide +kernel
theorem dX7_drawnNow_121 : decode cX7_drawnNow 121 = .ok (.iinc 6 1, 3) := by decide +kernel
theorem dX7_drawnNow_124 : decode cX7_drawnNow 124 = .ok (.goto (-109), 3) := by decide +kernel
theorem dX7_drawnNow_127 : decode cX7_drawnNow 127 = .ok (.iload_n 3, 1) := by decide +kernel
theorem dX7_drawnNow_128 : decode cX7_drawnNow 128 = .ok (.ifCond .ne 8, 3) := by decide +kernel
theorem dX7_drawnNow_131 : decode cX7_drawnNow 131 = .ok (.iload 4, 2) := by decide +kernel
theorem dX7_drawnNow_133 : decode cX7_drawnNow 133 = .ok (.goto 18, 3) := by decide +kernel
theorem dX7_drawnNow_136 : decode cX7_drawnNow 136 = .ok (.iload_n 3, 1) := by decide +kernel
theorem dX7_drawnNow_137 : decode cX7_drawnNow 137 = .ok (.iconst 1, 1) := by decide +kernel
theorem dX7_drawnNow_138 : decode cX7_drawnNow 138 = .ok (.if_icmp .ne 8, 3) := by decide +kernel
theorem dX7_drawnNow_141 : decode cX7_drawnNow 141 = .ok (.iload 5, 2) := by decide +kernel
theorem dX7_drawnNow_143 : decode cX7_drawnNow 143 = .ok (.goto 8, 3) := by decide +kernel
theorem dX7_drawnNow_146 : decode cX7_drawnNow 146 = .ok (.aload_n 0, 1) := by decide +kernel
theorem dX7_drawnNow_147 : decode cX7_drawnNow 147 = .ok (.getfield 298, 3) := by decide +kernel
theorem dX7_drawnNow_150 : decode cX7_drawnNow 150 = .ok (.l2i, 1) := by decide +kernel
theorem dX7_drawnNow_151 : decode cX7_drawnNow 151 = .ok (.ireturn, 1) := by decide +kernel
theorem dX7_drawn_0 : decode cX7_drawn 0 = .ok (.iload_n 1, 1) := by decide +kernel
theorem dX7_drawn_1 : decode cX7_drawn 1 = .ok (.iconst 1, 1) := by decide +kernel
theorem dX7_drawn_2 : decode cX7_drawn 2 = .ok (.bipush 8, 2) := by decide +kernel
theorem dX7_drawn_4 : decode cX7_drawn 4 = .ok (.invokestatic 89, 3) := by decide +kernel
theorem dX7_drawn_7 : decode cX7_drawn 7 = .ok (.ifCond .eq 16, 3) := by decide +kernel
theorem dX7_drawn_10 : decode cX7_drawn 10 = .ok (.iload_n 2, 1) := by decide +kernel
theorem dX7_drawn_11 : decode cX7_drawn 11 = .ok (.ifCond .lt 12, 3) := by decide +kernel
theorem dX7_drawn_14 : decode cX7_drawn 14 = .ok (.iload_n 3, 1) := by decide +kernel
theorem dX7_drawn_15 : decode cX7_drawn 15 = .ok (.iconst 0, 1) := by decide +kernel
theorem dX7_drawn_16 : decode cX7_drawn 16 = .ok (.iconst 2, 1) := by decide +kernel
theorem dX7_drawn_17 : decode cX7_drawn 17 = .ok (.invokestatic 89, 3) := by decide +kernel
theorem dX7_drawn_20 : decode cX7_drawn 20 = .ok (.ifCond .ne 8, 3) := by decide +kernel
theorem dX7_drawn_23 : decode cX7_drawn 23 = .ok (.bipush (-102), 2) := by decide +kernel
theorem dX7_drawn_25 : decode cX7_drawn 25 = .ok (.goto 10, 3) := by decide +kernel
theorem dX7_drawn_28 : decode cX7_drawn 28 = .ok (.aload_n 0, 1) := by decide +kernel
theorem dX7_drawn_29 : decode cX7_drawn 29 = .ok (.iload_n 1, 1) := by decide +kernel
theorem dX7_drawn_30 : decode cX7_drawn 30 = .ok (.iload_n 2, 1) := by decide +kernel
theorem dX7_drawn_31 : decode cX7_drawn 31 = .ok (.iload_n 3, 1) := by decide +kernel
theorem dX7_drawn_32 : decode cX7_drawn 32 = .ok (.invokevirtual 311, 3) := by decide +kernel
theorem dX7_drawn_35 : decode cX7_drawn 35 = .ok (.ireturn, 1) := by decide +kernel
theorem dX7_image_0 : decode cX7_image 0 = .ok (.aload_n 0, 1) := by decide +kernel
theorem dX7_image_1 : decode cX7_image 1 = .ok (.getfield 121, 3) := by decide +kernel
theorem dX7_image_4 : decode cX7_image 4 = .ok (.ifCond .ne 6, 3) := by decide +kernel
theorem dX7_image_7 : decode cX7_image 7 = .ok (.bipush (-103), 2) := by decide +kernel
theorem dX7_image_9 : decode cX7_image 9 = .ok (.ireturn, 1) := by decide +kernel
theorem dX7_image_10 : decode cX7_image 10 = .ok (.aload_n 0, 1) := by decide +kernel
theorem dX7_image_11 : decode cX7_image 11 = .ok (.iconst 1, 1) := by decide +kernel
theorem dX7_image_12 : decode cX7_image 12 = .ok (.putfield 314, 3) := by decide +kernel
theorem dX7_image_15 : decode cX7_image 15 = .ok (.aload_n 0, 1) := by decide +kernel
theorem dX7_image_16 : decode cX7_image 16 = .ok (.aload_n 0, 1) := by decide +kernel
theorem dX7_image_17 : decode cX7_image 17 = .ok (.getfield 127, 3) := by decide +kernel
theorem dX7_image_20 : decode cX7_image 20 = .ok (.putfield 317, 3) := by decide +kernel
theorem dX7_image_23 : decode cX7_image 23 = .ok (.aload_n 0, 1) := by decide +kernel
theorem dX7_image_24 : decode cX7_image 24 = .ok (.aload_n 0, 1) := by decide +kernel
theorem dX7_image_25 : decode cX7_image 25 = .ok (.getfield 130, 3) := by decide +kernel
theorem dX7_image_28 : decode cX7_image 28 = .ok (.putfield 320, 3) := by decide +kernel
theorem dX7_image_31 : decode cX7_image 31 = .ok (.iconst 0, 1) := by decide +kernel
theorem dX7_image_32 : decode cX7_image 32 = .ok (.istore_n 1, 1) := by decide +kernel
theorem dX7_image_33 : decode cX7_image 33 = .ok (.iload_n 1, 1) := by decide +kernel
theorem dX7_image_34 : decode cX7_image 34 = .ok (.bipush 8, 2) := by decide +kernel
theorem dX7_image_36 : decode cX7_image 36 = .ok (.if_icmp .ge 57, 3) := by decide +kernel
theorem dX7_image_39 : decode cX7_image 39 = .ok (.aload_n 0, 1) := by decide +kernel
theorem dX7_image_40 : decode cX7_image 40 = .ok (.getfield 74, 3) := by decide +kernel
theorem dX7_image_43 : decode cX7_image 43 = .ok (.iload_n 1, 1) := by decide +kernel
theorem dX7_image_44 : decode cX7_image 44 = .ok (.aload_n 0, 1) := by decide +kernel
theorem dX7_image_45 : decode cX7_image 45 = .ok (.getfield 7, 3) := by decide +kernel
theorem dX7_image_48 : decode cX7_image 48 = .ok (.iload_n 1, 1) := by decide +kernel
theorem dX7_image_49 : decode cX7_image 49 = .ok (.iaload, 1) := by decide +kernel
theorem dX7_image_50 : decode cX7_image 50 = .ok (.iastore, 1) := by decide +kernel
theorem dX7_image_51 : decode cX7_image 51 = .ok (.aload_n 0, 1) := by decide +kernel
theorem dX7_image_52 : decode cX7_image 52 = .ok (.getfield 77, 3) := by decide +kernel
theorem dX7_image_55 : decode cX7_image 55 = .ok (.iconst 2, 1) := by decide +kernel
theorem dX7_image_56 : decode cX7_image 56 = .ok (.iload_n 1, 1) := by decide +kernel
theorem dX7_image_57 : decode cX7_image 57 = .ok (.imul, 1) := by decide +kernel
theorem dX7_image_58 : decode cX7_image 58 = .ok (.aload_n 0, 1) := by decide +kernel
theorem dX7_image_59 : decode cX7_image 59 = .ok (.getfield 13, 3) := by decide +kernel
theorem dX7_image_62 : decode cX7_image 62 = .ok (.iconst 2, 1) := by decide +kernel
theorem dX7_image_63 : decode cX7_image 63 = .ok (.iload_n 1, 1) := by decide +kernel
theorem dX7_image_64 : decode cX7_image 64 = .ok (.imul, 1) := by decide +kernel
theorem dX7_image_65 : decode cX7_image 65 = .ok (.iaload, 1) := by decide +kernel
theorem dX7_image_66 : decode cX7_image 66 = .ok (.iastore, 1) := by decide +kernel
theorem dX7_image_67 : decode cX7_image 67 = .ok (.aload_n 0, 1) := by decide +kernel
theorem dX7_image_68 : decode cX7_image 68 = .ok (.getfield 77, 3) := by decide +kernel
theorem dX7_image_71 : decode cX7_image 71 = .ok (.iconst 2, 1) := by decide +kernel
theorem dX7_image_72 : decode cX7_image 72 = .ok (.iload_n 1, 1) := by decide +kernel
theorem dX7_image_73 : decode cX7_image 73 = .ok (.imul, 1) := by decide +kernel
theorem dX7_image_74 : decode cX7_image 74 = .ok (.iconst 1, 1) := by decide +kernel
theorem dX7_image_75 : decode cX7_image 75 = .ok (.iadd, 1) := by decide +kernel
theorem dX7_image_76 : decode cX7_image 76 = .ok (.aload_n 0, 1) := by decide +kernel
theorem dX7_image_77 : decode cX7_image 77 = .ok (.getfield 13, 3) := by decide +kernel
theorem dX7_image_80 : decode cX7_image 80 = .ok (.iconst 2, 1) := by decide +kernel
theorem dX7_image_81 : decode cX7_image 81 = .ok (.iload_n 1, 1) := by decide +kernel
theorem dX7_image_82 : decode cX7_image 82 = .ok (.imul, 1) := by decide +kernel
theorem dX7_image_83 : decode cX7_image 83 = .ok (.iconst 1, 1) := by decide +kernel
theorem dX7_image_84 : decode cX7_image 84 = .ok (.iadd, 1) := by decide +kernel
theorem dX7_image_85 : decode cX7_image 85 = .ok (.iaload, 1) := by decide +kernel
theorem dX7_image_86 : decode cX7_image 86 = .ok (.iastore, 1) := by decide +kernel
theorem dX7_image_87 : decode cX7_image 87 = .ok (.iinc 1 1, 3) := by decide +kernel
theorem dX7_image_90 : decode cX7_image 90 = .ok (.goto (-57), 3) := by decide +kernel
theorem dX7_image_93 : decode cX7_image 93 = .ok (.iconst 0, 1) := by decide +kernel
theorem dX7_image_94 : decode cX7_image 94 = .ok (.istore_n 1, 1) := by decide +kernel
theorem dX7_image_95 : decode cX7_image 95 = .ok (.iload_n 1, 1) := by decide +kernel
theorem dX7_image_96 : decode cX7_image 96 = .ok (.bipush 6, 2) := by decide +kernel
theorem dX7_image_98 : decode cX7_image 98 = .ok (.if_icmp .ge 45, 3) := by decide +kernel
theorem dX7_image_101 : decode cX7_image 101 = .ok (.aload_n 0, 1) := by decide +kernel
theorem dX7_image_102 : decode cX7_image 102 = .ok (.getfield 80, 3) := by decide +kernel
theorem dX7_image_105 : decode cX7_image 105 = .ok (.iload_n 1, 1) := by decide +kernel
theorem dX7_image_106 : decode cX7_image 106 = .ok (.aload_n 0, 1) := by decide +kernel
theorem dX7_image_107 : decode cX7_image 107 = .ok (.getfield 19, 3) := by decide +kernel
theorem dX7_image_110 : decode cX7_image 110 = .ok (.iload_n 1, 1) := by decide +kernel
theorem dX7_image_111 : decode cX7_image 111 = .ok (.iaload, 1) := by decide +kernel
theorem dX7_image_112 : decode cX7_image 112 = .ok (.iastore, 1) := by decide +kernel
theorem dX7_image_113 : decode cX7_image 113 = .ok (.aload_n 0, 1) := by decide +kernel
theorem dX7_image_114 : decode cX7_image 114 = .ok (.getfield 83, 3) := by decide +kernel
theorem dX7_image_117 : decode cX7_image 117 = .ok (.iload_n 1, 1) := by decide +kernel
theorem dX7_image_118 : decode cX7_image 118 = .ok (.aload_n 0, 1) := by decide +kernel
theorem dX7_image_119 : decode cX7_image 119 = .ok (.getfield 22, 3) := by decide +kernel
theorem dX7_image_122 : decode cX7_image 122 = .ok (.iload_n 1, 1) := by decide +kernel
theorem dX7_image_123 : decode cX7_image 123 = .ok (.iaload, 1) := by decide +kernel
theorem dX7_image_124 : decode cX7_image 124 = .ok (.iastore, 1) := by decide +kernel
theorem dX7_image_125 : decode cX7_image 125 = .ok (.aload_n 0, 1) := by decide +kernel
theorem dX7_image_126 : decode cX7_image 126 = .ok (.getfield 86, 3) := by decide +kernel
theorem dX7_image_129 : decode cX7_image 129 = .ok (.iload_n 1, 1) := by decide +kernel
theorem dX7_image_130 : decode cX7_image 130 = .ok (.aload_n 0, 1) := by decide +kernel
theorem dX7_image_131 : decode cX7_image 131 = .ok (.getfield 25, 3) := by decide +kernel
theorem dX7_image_134 : decode cX7_image 134 = .ok (.iload_n 1, 1) := by decide +kernel
theorem dX7_image_135 : decode cX7_image 135 = .ok (.iaload, 1) := by decide +kernel
theorem dX7_image_136 : decode cX7_image 136 = .ok (.iastore, 1) := by decide +kernel
theorem dX7_image_137 : decode cX7_image 137 = .ok (.iinc 1 1, 3) := by decide +kernel
theorem dX7_image_140 : decode cX7_image 140 = .ok (.goto (-45), 3) := by decide +kernel
theorem dX7_image_143 : decode cX7_image 143 = .ok (.aload_n 0, 1) := by decide +kernel
theorem dX7_image_144 : decode cX7_image 144 = .ok (.getfield 121, 3) := by decide +kernel
theorem dX7_image_147 : decode cX7_image 147 = .ok (.ireturn, 1) := by decide +kernel
theorem dX7_restore_0 : decode cX7_restore 0 = .ok (.aload_n 0, 1) := by decide +kernel
theorem dX7_restore_1 : decode cX7_restore 1 = .ok (.getfield 314, 3) := by decide +kernel
theorem dX7_restore_4 : decode cX7_restore 4 = .ok (.ifCond .eq 14, 3) := by decide +kernel
theorem dX7_restore_7 : decode cX7_restore 7 = .ok (.aload_n 0, 1) := by decide +kernel
theorem dX7_restore_8 : decode cX7_restore 8 = .ok (.getfield 317, 3) := by decide +kernel
theorem dX7_restore_11 : decode cX7_restore 11 = .ok (.aload_n 0, 1) := by decide +kernel
theorem dX7_restore_12 : decode cX7_restore 12 = .ok (.getfield 127, 3) := by decide +kernel
theorem dX7_restore_15 : decode cX7_restore 15 = .ok (.if_icmp .eq 6, 3) := by decide +kernel
theorem dX7_restore_18 : decode cX7_restore 18 = .ok (.bipush (-103), 2) := by decide +kernel
theorem dX7_restore_20 : decode cX7_restore 20 = .ok (.ireturn, 1) := by decide +kernel
theorem dX7_restore_21 : decode cX7_restore 21 = .ok (.aload_n 0, 1) := by decide +kernel
theorem dX7_restore_22 : decode cX7_restore 22 = .ok (.aload_n 0, 1) := by decide +kernel
theorem dX7_restore_23 : decode cX7_restore 23 = .ok (.getfield 320, 3) := by decide +kernel
theorem dX7_restore_26 : decode cX7_restore 26 = .ok (.putfield 130, 3) := by decide +kernel
theorem dX7_restore_29 : decode cX7_restore 29 = .ok (.iconst 0, 1) := by decide +kernel
theorem dX7_restore_30 : decode cX7_restore 30 = .ok (.istore_n 1, 1) := by decide +kernel
theorem dX7_restore_31 : decode cX7_restore 31 = .ok (.iload_n 1, 1) := by decide +kernel
theorem dX7_restore_32 : decode cX7_restore 32 = .ok (.bipush 8, 2) := by decide +kernel
theorem dX7_restore_34 : decode cX7_restore 34 = .ok (.if_icmp .ge 57, 3) := by decide +kernel
theorem dX7_restore_37 : decode cX7_restore 37 = .ok (.aload_n 0, 1) := by decide +kernel
theorem dX7_restore_38 : decode cX7_restore 38 = .ok (.getfield 7, 3) := by decide +kernel
theorem dX7_restore_41 : decode cX7_restore 41 = .ok (.iload_n 1, 1) := by decide +kernel
theorem dX7_restore_42 : decode cX7_restore 42 = .ok (.aload_n 0, 1) := by decide +kernel
theorem dX7_restore_43 : decode cX7_restore 43 = .ok (.getfield 74, 3) := by decide +kernel
theorem dX7_restore_46 : decode cX7_restore 46 = .ok (.iload_n 1, 1) := by decide +kernel
theorem dX7_restore_47 : decode cX7_restore 47 = .ok (.iaload, 1) := by decide +kernel
theorem dX7_restore_48 : decode cX7_restore 48 = .ok (.iastore, 1) := by decide +kernel
theorem dX7_restore_49 : decode cX7_restore 49 = .ok (.aload_n 0, 1) := by decide +kernel
theorem dX7_restore_50 : decode cX7_restore 50 = .ok (.getfield 13, 3) := by decide +kernel
theorem dX7_restore_53 : decode cX7_restore 53 = .ok (.iconst 2, 1) := by decide +kernel
theorem dX7_restore_54 : decode cX7_restore 54 = .ok (.iload_n 1, 1) := by decide +kernel
theorem dX7_restore_55 : decode cX7_restore 55 = .ok (.imul, 1) := by decide +kernel
theorem dX7_restore_56 : decode cX7_restore 56 = .ok (.aload_n 0, 1) := by decide +kernel
theorem dX7_restore_57 : decode cX7_restore 57 = .ok (.getfield 77, 3) := by decide +kernel
theorem dX7_restore_60 : decode cX7_restore 60 = .ok (.iconst 2, 1) := by decide +kernel
theorem dX7_restore_61 : decode cX7_restore 61 = .ok (.iload_n 1, 1) := by decide +kernel
theorem dX7_restore_62 : decode cX7_restore 62 = .ok (.imul, 1) := by decide +kernel
theorem dX7_restore_63 : decode cX7_restore 63 = .ok (.iaload, 1) := by decide +kernel
theorem dX7_restore_64 : decode cX7_restore 64 = .ok (.iastore, 1) := by decide +kernel
theorem dX7_restore_65 : decode cX7_restore 65 = .ok (.aload_n 0, 1) := by decide +kernel
theorem dX7_restore_66 : decode cX7_restore 66 = .ok (.getfield 13, 3) := by decide +kernel
theorem dX7_restore_69 : decode cX7_restore 69 = .ok (.iconst 2, 1) := by decide +kernel
theorem dX7_restore_70 : decode cX7_restore 70 = .ok (.iload_n 1, 1) := by decide +kernel
theorem dX7_restore_71 : decode cX7_restore 71 = .ok (.imul, 1) := by decide +kernel
theorem dX7_restore_72 : decode cX7_restore 72 = .ok (.iconst 1, 1) := by decide +kernel
theorem dX7_restore_73 : decode cX7_restore 73 = .ok (.iadd, 1) := by decide +kernel
theorem dX7_restore_74 : decode cX7_restore 74 = .ok (.aload_n 0, 1) := by decide +kernel
theorem dX7_restore_75 : decode cX7_restore 75 = .ok (.getfield 77, 3) := by decide +kernel
theorem dX7_restore_78 : decode cX7_restore 78 = .ok (.iconst 2, 1) := by decide +kernel
theorem dX7_restore_79 : decode cX7_restore 79 = .ok (.iload_n 1, 1) := by decide +kernel
theorem dX7_restore_80 : decode cX7_restore 80 = .ok (.imul, 1) := by decide +kernel
theorem dX7_restore_81 : decode cX7_restore 81 = .ok (.iconst 1, 1) := by decide +kernel
theorem dX7_restore_82 : decode cX7_restore 82 = .ok (.iadd, 1) := by decide +kernel
theorem dX7_restore_83 : decode cX7_restore 83 = .ok (.iaload, 1) := by decide +kernel
theorem dX7_restore_84 : decode cX7_restore 84 = .ok (.iastore, 1) := by decide +kernel
theorem dX7_restore_85 : decode cX7_restore 85 = .ok (.iinc 1 1, 3) := by decide +kernel
theorem dX7_restore_88 : decode cX7_restore 88 = .ok (.goto (-57), 3) := by decide +kernel
theorem dX7_restore_91 : decode cX7_restore 91 = .ok (.iconst 0, 1) := by decide +kernel
theorem dX7_restore_92 : decode cX7_restore 92 = .ok (.istore_n 1, 1) := by decide +kernel
theorem dX7_restore_93 : decode cX7_restore 93 = .ok (.iload_n 1, 1) := by decide +kernel
theorem dX7_restore_94 : decode cX7_restore 94 = .ok (.bipush 6, 2) := by decide +kernel
theorem dX7_restore_96 : decode cX7_restore 96 = .ok (.if_icmp .ge 45, 3) := by decide +kernel
theorem dX7_restore_99 : decode cX7_restore 99 = .ok (.aload_n 0, 1) := by decide +kernel
theorem dX7_restore_100 : decode cX7_restore 100 = .ok (.getfield 19, 3) := by decide +kernel
theorem dX7_restore_103 : decode cX7_restore 103 = .ok (.iload_n 1, 1) := by decide +kernel
theorem dX7_restore_104 : decode cX7_restore 104 = .ok (.aload_n 0, 1) := by decide +kernel
theorem dX7_restore_105 : decode cX7_restore 105 = .ok (.getfield 80, 3) := by decide +kernel
theorem dX7_restore_108 : decode cX7_restore 108 = .ok (.iload_n 1, 1) := by decide +kernel
theorem dX7_restore_109 : decode cX7_restore 109 = .ok (.iaload, 1) := by decide +kernel
theorem dX7_restore_110 : decode cX7_restore 110 = .ok (.iastore, 1) := by decide +kernel
theorem dX7_restore_111 : decode cX7_restore 111 = .ok (.aload_n 0, 1) := by decide +kernel
theorem dX7_restore_112 : decode cX7_restore 112 = .ok (.getfield 22, 3) := by decide +kernel
theorem dX7_restore_115 : decode cX7_restore 115 = .ok (.iload_n 1, 1) := by decide +kernel
theorem dX7_restore_116 : decode cX7_restore 116 = .ok (.aload_n 0, 1) := by decide +kernel
theorem dX7_restore_117 : decode cX7_restore 117 = .ok (.getfield 83, 3) := by decide +kernel
theorem dX7_restore_120 : decode cX7_restore 120 = .ok (.iload_n 1, 1) := by decide +kernel
theorem dX7_restore_121 : decode cX7_restore 121 = .ok (.iaload, 1) := by decide +kernel
theorem dX7_restore_122 : decode cX7_restore 122 = .ok (.iastore, 1) := by decide +kernel
theorem dX7_restore_123 : decode cX7_restore 123 = .ok (.aload_n 0, 1) := by decide +kernel
theorem dX7_restore_124 : decode cX7_restore 124 = .ok (.getfield 25, 3) := by decide +kernel
theorem dX7_restore_127 : decode cX7_restore 127 = .ok (.iload_n 1, 1) := by decide +kernel
theorem dX7_restore_128 : decode cX7_restore 128 = .ok (.aload_n 0, 1) := by decide +kernel
theorem dX7_restore_129 : decode cX7_restore 129 = .ok (.getfield 86, 3) := by decide +kernel
theorem dX7_restore_132 : decode cX7_restore 132 = .ok (.iload_n 1, 1) := by decide +kernel
theorem dX7_restore_133 : decode cX7_restore 133 = .ok (.iaload, 1) := by decide +kernel
theorem dX7_restore_134 : decode cX7_restore 134 = .ok (.iastore, 1) := by decide +kernel
theorem dX7_restore_135 : decode cX7_restore 135 = .ok (.iinc 1 1, 3) := by decide +kernel
theorem dX7_restore_138 : decode cX7_restore 138 = .ok (.goto (-45), 3) := by decide +kernel
theorem dX7_restore_141 : decode cX7_restore 141 = .ok (.aload_n 0, 1) := by decide +kernel
theorem dX7_restore_142 : decode cX7_restore 142 = .ok (.getfield 121, 3) := by decide +kernel
theorem dX7_restore_145 : decode cX7_restore 145 = .ok (.ireturn, 1) := by decide +kernel
theorem dX7_ofGraph_0 : decode cX7_ofGraph 0 = .ok (.aload_n 0, 1) := by decide +kernel
theorem dX7_ofGraph_1 : decode cX7_ofGraph 1 = .ok (.getfield 121, 3) := by decide +kernel
theorem dX7_ofGraph_4 : decode cX7_ofGraph 4 = .ok (.ifCond .ne 5, 3) := by decide +kernel
theorem dX7_ofGraph_7 : decode cX7_ofGraph 7 = .ok (.iconst 0, 1) := by decide +kernel
theorem dX7_ofGraph_8 : decode cX7_ofGraph 8 = .ok (.ireturn, 1) := by decide +kernel
theorem dX7_ofGraph_9 : decode cX7_ofGraph 9 = .ok (.aload_n 0, 1) := by decide +kernel
theorem dX7_ofGraph_10 : decode cX7_ofGraph 10 = .ok (.invokevirtual 210, 3) := by decide +kernel
theorem dX7_ofGraph_13 : decode cX7_ofGraph 13 = .ok (.iload_n 1, 1) := by decide +kernel
theorem dX7_ofGraph_14 : decode cX7_ofGraph 14 = .ok (.iconst 1, 1) := by decide +kernel
theorem dX7_ofGraph_15 : decode cX7_ofGraph 15 = .ok (.if_icmp .ne 10, 3) := by decide +kernel
theorem dX7_ofGraph_18 : decode cX7_ofGraph 18 = .ok (.aload_n 0, 1) := by decide +kernel
theorem dX7_ofGraph_19 : decode cX7_ofGraph 19 = .ok (.getfield 150, 3) := by decide +kernel
theorem dX7_ofGraph_22 : decode cX7_ofGraph 22 = .ok (.goto 61, 3) := by decide +kernel
theorem dX7_ofGraph_25 : decode cX7_ofGraph 25 = .ok (.iload_n 1, 1) := by decide +kernel
theorem dX7_ofGraph_26 : decode cX7_ofGraph 26 = .ok (.iconst 2, 1) := by decide +kernel
theorem dX7_ofGraph_27 : decode cX7_ofGraph 27 = .ok (.if_icmp .ne 10, 3) := by decide +kernel
theorem dX7_ofGraph_30 : decode cX7_ofGraph 30 = .ok (.aload_n 0, 1) := by decide +kernel
theorem dX7_ofGraph_31 : decode cX7_ofGraph 31 = .ok (.getfield 159, 3) := by decide +kernel
theorem dX7_ofGraph_34 : decode cX7_ofGraph 34 = .ok (.goto 49, 3) := by decide +kernel
theorem dX7_ofGraph_37 : decode cX7_ofGraph 37 = .ok (.iload_n 1, 1) := by decide +kernel
theorem dX7_ofGraph_38 : decode cX7_ofGraph 38 = .ok (.iconst 3, 1) := by decide +kernel
theorem dX7_ofGraph_39 : decode cX7_ofGraph 39 = .ok (.if_icmp .ne 10, 3) := by decide +kernel
theorem dX7_ofGraph_42 : decode cX7_ofGraph 42 = .ok (.aload_n 0, 1) := by decide +kernel
theorem dX7_ofGraph_43 : decode cX7_ofGraph 43 = .ok (.getfield 162, 3) := by decide +kernel
theorem dX7_ofGraph_46 : decode cX7_ofGraph 46 = .ok (.goto 37, 3) := by decide +kernel
theorem dX7_ofGraph_49 : decode cX7_ofGraph 49 = .ok (.iload_n 1, 1) := by decide +kernel
theorem dX7_ofGraph_50 : decode cX7_ofGraph 50 = .ok (.iconst 4, 1) := by decide +kernel
theorem dX7_ofGraph_51 : decode cX7_ofGraph 51 = .ok (.if_icmp .ne 10, 3) := by decide +kernel
theorem dX7_ofGraph_54 : decode cX7_ofGraph 54 = .ok (.aload_n 0, 1) := by decide +kernel
theorem dX7_ofGraph_55 : decode cX7_ofGraph 55 = .ok (.getfield 165, 3) := by decide +kernel
theorem dX7_ofGraph_58 : decode cX7_ofGraph 58 = .ok (.goto 25, 3) := by decide +kernel
theorem dX7_ofGraph_61 : decode cX7_ofGraph 61 = .ok (.iload_n 1, 1) := by decide +kernel
theorem dX7_ofGraph_62 : decode cX7_ofGraph 62 = .ok (.iconst 5, 1) := by decide +kernel
theorem dX7_ofGraph_63 : decode cX7_ofGraph 63 = .ok (.if_icmp .ne 13, 3) := by decide +kernel
theorem dX7_ofGraph_66 : decode cX7_ofGraph 66 = .ok (.aload_n 0, 1) := by decide +kernel
theorem dX7_ofGraph_67 : decode cX7_ofGraph 67 = .ok (.getfield 168, 3) := by decide +kernel
theorem dX7_ofGraph_70 : decode cX7_ofGraph 70 = .ok (.invokestatic 156, 3) := by decide +kernel
theorem dX7_ofGraph_73 : decode cX7_ofGraph 73 = .ok (.goto 10, 3) := by decide +kernel
theorem dX7_ofGraph_76 : decode cX7_ofGraph 76 = .ok (.aload_n 0, 1) := by decide +kernel
theorem dX7_ofGraph_77 : decode cX7_ofGraph 77 = .ok (.getfield 171, 3) := by decide +kernel
theorem dX7_ofGraph_80 : decode cX7_ofGraph 80 = .ok (.invokestatic 156, 3) := by decide +kernel
theorem dX7_ofGraph_83 : decode cX7_ofGraph 83 = .ok (.ireturn, 1) := by decide +kernel
theorem dX7_howMany_0 : decode cX7_howMany 0 = .ok (.iload_n 1, 1) := by decide +kernel
theorem dX7_howMany_1 : decode cX7_howMany 1 = .ok (.tableswitch 93 0 11 #[63, 93, 93, 93, 93, 93, 93, 68, 73, 78, 83, 88], 63) := by decide +kernel
theorem dX7_howMany_64 : decode cX7_howMany 64 = .ok (.aload_n 0, 1) := by decide +kernel
theorem dX7_howMany_65 : decode cX7_howMany 65 = .ok (.getfield 121, 3) := by decide +kernel
theorem dX7_howMany_68 : decode cX7_howMany 68 = .ok (.ireturn, 1) := by decide +kernel
theorem dX7_howMany_69 : decode cX7_howMany 69 = .ok (.aload_n 0, 1) := by decide +kernel
theorem dX7_howMany_70 : decode cX7_howMany 70 = .ok (.getfield 124, 3) := by decide +kernel
theorem dX7_howMany_73 : decode cX7_howMany 73 = .ok (.ireturn, 1) := by decide +kernel
theorem dX7_howMany_74 : decode cX7_howMany 74 = .ok (.aload_n 0, 1) := by decide +kernel
theorem dX7_howMany_75 : decode cX7_howMany 75 = .ok (.getfield 130, 3) := by decide +kernel
theorem dX7_howMany_78 : decode cX7_howMany 78 = .ok (.ireturn, 1) := by decide +kernel
theorem dX7_howMany_79 : decode cX7_howMany 79 = .ok (.aload_n 0, 1) := by decide +kernel
theorem dX7_howMany_80 : decode cX7_howMany 80 = .ok (.getfield 93, 3) := by decide +kernel
theorem dX7_howMany_83 : decode cX7_howMany 83 = .ok (.ireturn, 1) := by decide +kernel
theorem dX7_howMany_84 : decode cX7_howMany 84 = .ok (.aload_n 0, 1) := by decide +kernel
theorem dX7_howMany_85 : decode cX7_howMany 85 = .ok (.getfield 127, 3) := by decide +kernel
theorem dX7_howMany_88 : decode cX7_howMany 88 = .ok (.ireturn, 1) := by decide +kernel
theorem dX7_howMany_89 : decode cX7_howMany 89 = .ok (.aload_n 0, 1) := by decide +kernel
theorem dX7_howMany_90 : decode cX7_howMany 90 = .ok (.getfield 283, 3) := by decide +kernel
theorem dX7_howMany_93 : decode cX7_howMany 93 = .ok (.ireturn, 1) := by decide +kernel
theorem dX7_howMany_94 : decode cX7_howMany 94 = .ok (.iload_n 1, 1) := by decide +kernel
theorem dX7_howMany_95 : decode cX7_howMany 95 = .ok (.iconst 1, 1) := by decide +kernel
theorem dX7_howMany_96 : decode cX7_howMany 96 = .ok (.bipush 6, 2) := by decide +kernel
theorem dX7_howMany_98 : decode cX7_howMany 98 = .ok (.invokestatic 89, 3) := by decide +kernel
theorem dX7_howMany_101 : decode cX7_howMany 101 = .ok (.ifCond .eq 11, 3) := by decide +kernel
theorem dX7_howMany_104 : decode cX7_howMany 104 = .ok (.aload_n 0, 1) := by decide +kernel
theorem dX7_howMany_105 : decode cX7_howMany 105 = .ok (.iload_n 1, 1) := by decide +kernel
theorem dX7_howMany_106 : decode cX7_howMany 106 = .ok (.invokevirtual 323, 3) := by decide +kernel
theorem dX7_howMany_109 : decode cX7_howMany 109 = .ok (.goto 5, 3) := by decide +kernel
theorem dX7_howMany_112 : decode cX7_howMany 112 = .ok (.bipush (-102), 2) := by decide +kernel
theorem dX7_howMany_114 : decode cX7_howMany 114 = .ok (.ireturn, 1) := by decide +kernel
theorem dX7_count_0 : decode cX7_count 0 = .ok (.aload_n 0, 1) := by decide +kernel
theorem dX7_count_1 : decode cX7_count 1 = .ok (.iload_n 1, 1) := by decide +kernel
theorem dX7_count_2 : decode cX7_count 2 = .ok (.invokevirtual 326, 3) := by decide +kernel
theorem dX7_count_5 : decode cX7_count 5 = .ok (.ireturn, 1) := by decide +kernel
theorem dX7_mix_0 : decode cX7_mix 0 = .ok (.aload_n 0, 1) := by decide +kernel
theorem dX7_mix_1 : decode cX7_mix 1 = .ok (.ldc2_w 329, 3) := by decide +kernel
theorem dX7_mix_4 : decode cX7_mix 4 = .ok (.aload_n 0, 1) := by decide +kernel
theorem dX7_mix_5 : decode cX7_mix 5 = .ok (.getfield 331, 3) := by decide +kernel
theorem dX7_mix_8 : decode cX7_mix 8 = .ok (.lmul, 1) := by decide +kernel
theorem dX7_mix_9 : decode cX7_mix 9 = .ok (.lload_n 1, 1) := by decide +kernel
theorem dX7_mix_10 : decode cX7_mix 10 = .ok (.ladd, 1) := by decide +kernel
theorem dX7_mix_11 : decode cX7_mix 11 = .ok (.putfield 331, 3) := by decide +kernel
theorem dX7_mix_14 : decode cX7_mix 14 = .ok (.return_, 1) := by decide +kernel
theorem dX7_mixGraph_0 : decode cX7_mixGraph 0 = .ok (.aload_n 0, 1) := by decide +kernel
theorem dX7_mixGraph_1 : decode cX7_mixGraph 1 = .ok (.invokevirtual 210, 3) := by decide +kernel
theorem dX7_mixGraph_4 : decode cX7_mixGraph 4 = .ok (.iconst 0, 1) := by decide +kernel
theorem dX7_mixGraph_5 : decode cX7_mixGraph 5 = .ok (.istore_n 1, 1) := by decide +kernel
theorem dX7_mixGraph_6 : decode cX7_mixGraph 6 = .ok (.iload_n 1, 1) := by decide +kernel
theorem dX7_mixGraph_7 : decode cX7_mixGraph 7 = .ok (.aload_n 0, 1) := by decide +kernel
theorem dX7_mixGraph_8 : decode cX7_mixGraph 8 = .ok (.getfield 121, 3) := by decide +kernel
theorem dX7_mixGraph_11 : decode cX7_mixGraph 11 = .ok (.if_icmp .ge 60, 3) := by decide +kernel
theorem dX7_mixGraph_14 : decode cX7_mixGraph 14 = .ok (.iconst 0, 1) := by decide +kernel
theorem dX7_mixGraph_15 : decode cX7_mixGraph 15 = .ok (.istore_n 2, 1) := by decide +kernel
theorem dX7_mixGraph_16 : decode cX7_mixGraph 16 = .ok (.iload_n 2, 1) := by decide +kernel
theorem dX7_mixGraph_17 : decode cX7_mixGraph 17 = .ok (.bipush 10, 2) := by decide +kernel
theorem dX7_mixGraph_19 : decode cX7_mixGraph 19 = .ok (.if_icmp .ge 20, 3) := by decide +kernel
theorem dX7_mixGraph_22 : decode cX7_mixGraph 22 = .ok (.aload_n 0, 1) := by decide +kernel
theorem dX7_mixGraph_23 : decode cX7_mixGraph 23 = .ok (.aload_n 0, 1) := by decide +kernel
theorem dX7_mixGraph_24 : decode cX7_mixGraph 24 = .ok (.iload_n 1, 1) := by decide +kernel
theorem dX7_mixGraph_25 : decode cX7_mixGraph 25 = .ok (.iload_n 2, 1) := by decide +kernel
theorem dX7_mixGraph_26 : decode cX7_mixGraph 26 = .ok (.invokevirtual 213, 3) := by decide +kernel
theorem dX7_mixGraph_29 : decode cX7_mixGraph 29 = .ok (.i2l, 1) := by decide +kernel
theorem dX7_mixGraph_30 : decode cX7_mixGraph 30 = .ok (.invokevirtual 334, 3) := by decide +kernel
theorem dX7_mixGraph_33 : decode cX7_mixGraph 33 = .ok (.iinc 2 1, 3) := by decide +kernel
theorem dX7_mixGraph_36 : decode cX7_mixGraph 36 = .ok (.goto (-20), 3) := by decide +kernel
theorem dX7_mixGraph_39 : decode cX7_mixGraph 39 = .ok (.aload_n 0, 1) := by decide +kernel
theorem dX7_mixGraph_40 : decode cX7_mixGraph 40 = .ok (.aload_n 0, 1) := by decide +kernel
theorem dX7_mixGraph_41 : decode cX7_mixGraph 41 = .ok (.iconst 2, 1) := by decide +kernel
theorem dX7_mixGraph_42 : decode cX7_mixGraph 42 = .ok (.iload_n 1, 1) := by decide +kernel
theorem dX7_mixGraph_43 : decode cX7_mixGraph 43 = .ok (.imul, 1) := by decide +kernel
theorem dX7_mixGraph_44 : decode cX7_mixGraph 44 = .ok (.invokevirtual 217, 3) := by decide +kernel
theorem dX7_mixGraph_47 : decode cX7_mixGraph 47 = .ok (.i2l, 1) := by decide +kernel
theorem dX7_mixGraph_48 : decode cX7_mixGraph 48 = .ok (.invokevirtual 334, 3) := by decide +kernel
theorem dX7_mixGraph_51 : decode cX7_mixGraph 51 = .ok (.aload_n 0, 1) := by decide +kernel
theorem dX7_mixGraph_52 : decode cX7_mixGraph 52 = .ok (.aload_n 0, 1) := by decide +kernel
theorem dX7_mixGraph_53 : decode cX7_mixGraph 53 = .ok (.iconst 2, 1) := by decide +kernel
theorem dX7_mixGraph_54 : decode cX7_mixGraph 54 = .ok (.iload_n 1, 1) := by decide +kernel
theorem dX7_mixGraph_55 : decode cX7_mixGraph 55 = .ok (.imul, 1) := by decide +kernel
theorem dX7_mixGraph_56 : decode cX7_mixGraph 56 = .ok (.iconst 1, 1) := by decide +kernel
theorem dX7_mixGraph_57 : decode cX7_mixGraph 57 = .ok (.iadd, 1) := by decide +kernel
theorem dX7_mixGraph_58 : decode cX7_mixGraph 58 = .ok (.invokevirtual 217, 3) := by decide +kernel
theorem dX7_mixGraph_61 : decode cX7_mixGraph 61 = .ok (.i2l, 1) := by decide +kernel
theorem dX7_mixGraph_62 : decode cX7_mixGraph 62 = .ok (.invokevirtual 334, 3) := by decide +kernel
theorem dX7_mixGraph_65 : decode cX7_mixGraph 65 = .ok (.iinc 1 1, 3) := by decide +kernel
theorem dX7_mixGraph_68 : decode cX7_mixGraph 68 = .ok (.goto (-62), 3) := by decide +kernel
theorem dX7_mixGraph_71 : decode cX7_mixGraph 71 = .ok (.aload_n 0, 1) := by decide +kernel
theorem dX7_mixGraph_72 : decode cX7_mixGraph 72 = .ok (.invokevirtual 277, 3) := by decide +kernel
theorem dX7_mixGraph_75 : decode cX7_mixGraph 75 = .ok (.iconst 0, 1) := by decide +kernel
theorem dX7_mixGraph_76 : decode cX7_mixGraph 76 = .ok (.istore_n 1, 1) := by decide +kernel
theorem dX7_mixGraph_77 : decode cX7_mixGraph 77 = .ok (.iload_n 1, 1) := by decide +kernel
theorem dX7_mixGraph_78 : decode cX7_mixGraph 78 = .ok (.iconst 4, 1) := by decide +kernel
theorem dX7_mixGraph_79 : decode cX7_mixGraph 79 = .ok (.if_icmp .ge 19, 3) := by decide +kernel
theorem dX7_mixGraph_82 : decode cX7_mixGraph 82 = .ok (.aload_n 0, 1) := by decide +kernel
theorem dX7_mixGraph_83 : decode cX7_mixGraph 83 = .ok (.aload_n 0, 1) := by decide +kernel
theorem dX7_mixGraph_84 : decode cX7_mixGraph 84 = .ok (.iload_n 1, 1) := by decide +kernel
theorem dX7_mixGraph_85 : decode cX7_mixGraph 85 = .ok (.invokevirtual 280, 3) := by decide +kernel
theorem dX7_mixGraph_88 : decode cX7_mixGraph 88 = .ok (.i2l, 1) := by decide +kernel
theorem dX7_mixGraph_89 : decode cX7_mixGraph 89 = .ok (.invokevirtual 334, 3) := by decide +kernel
theorem dX7_mixGraph_92 : decode cX7_mixGraph 92 = .ok (.iinc 1 1, 3) := by decide +kernel
theorem dX7_mixGraph_95 : decode cX7_mixGraph 95 = .ok (.goto (-18), 3) := by decide +kernel
theorem dX7_mixGraph_98 : decode cX7_mixGraph 98 = .ok (.iconst 0, 1) := by decide +kernel
theorem dX7_mixGraph_99 : decode cX7_mixGraph 99 = .ok (.istore_n 1, 1) := by decide +kernel
theorem dX7_mixGraph_100 : decode cX7_mixGraph 100 = .ok (.iload_n 1, 1) := by decide +kernel
theorem dX7_mixGraph_101 : decode cX7_mixGraph 101 = .ok (.aload_n 0, 1) := by decide +kernel
theorem dX7_mixGraph_102 : decode cX7_mixGraph 102 = .ok (.getfield 227, 3) := by decide +kernel
theorem dX7_mixGraph_105 : decode cX7_mixGraph 105 = .ok (.if_icmp .ge 20, 3) := by decide +kernel
theorem dX7_mixGraph_108 : decode cX7_mixGraph 108 = .ok (.aload_n 0, 1) := by decide +kernel
theorem dX7_mixGraph_109 : decode cX7_mixGraph 109 = .ok (.aload_n 0, 1) := by decide +kernel
theorem dX7_mixGraph_110 : decode cX7_mixGraph 110 = .ok (.getfield 65, 3) := by decide +kernel
theorem dX7_mixGraph_113 : decode cX7_mixGraph 113 = .ok (.iload_n 1, 1) := by decide +kernel
theorem dX7_mixGraph_114 : decode cX7_mixGraph 114 = .ok (.iaload, 1) := by decide +kernel
theorem dX7_mixGraph_115 : decode cX7_mixGraph 115 = .ok (.i2l, 1) := by decide +kernel
theorem dX7_mixGraph_116 : decode cX7_mixGraph 116 = .ok (.invokevirtual 334, 3) := by decide +kernel
theorem dX7_mixGraph_119 : decode cX7_mixGraph 119 = .ok (.iinc 1 1, 3) := by decide +kernel
theorem dX7_mixGraph_122 : decode cX7_mixGraph 122 = .ok (.goto (-22), 3) := by decide +kernel
theorem dX7_mixGraph_125 : decode cX7_mixGraph 125 = .ok (.return_, 1) := by decide +kernel
theorem dX7_digest_0 : decode cX7_digest 0 = .ok (.aload_n 0, 1) := by decide +kernel
theorem dX7_digest_1 : decode cX7_digest 1 = .ok (.ldc2_w 338, 3) := by decide +kernel
theorem dX7_digest_4 : decode cX7_digest 4 = .ok (.putfield 331, 3) := by decide +kernel
theorem dX7_digest_7 : decode cX7_digest 7 = .ok (.aload_n 0, 1) := by decide +kernel
theorem dX7_digest_8 : decode cX7_digest 8 = .ok (.getfield 121, 3) := by decide +kernel
theorem dX7_digest_11 : decode cX7_digest 11 = .ok (.ifCond .le 7, 3) := by decide +kernel
theorem dX7_digest_14 : decode cX7_digest 14 = .ok (.aload_n 0, 1) := by decide +kernel
theorem dX7_digest_15 : decode cX7_digest 15 = .ok (.invokevirtual 340, 3) := by decide +kernel
theorem dX7_digest_18 : decode cX7_digest 18 = .ok (.iconst 0, 1) := by decide +kernel
theorem dX7_digest_19 : decode cX7_digest 19 = .ok (.istore_n 1, 1) := by decide +kernel
theorem dX7_digest_20 : decode cX7_digest 20 = .ok (.iload_n 1, 1) := by decide +kernel
theorem dX7_digest_21 : decode cX7_digest 21 = .ok (.aload_n 0, 1) := by decide +kernel
theorem dX7_digest_22 : decode cX7_digest 22 = .ok (.getfield 124, 3) := by decide +kernel
theorem dX7_digest_25 : decode cX7_digest 25 = .ok (.if_icmp .ge 20, 3) := by decide +kernel
theorem dX7_digest_28 : decode cX7_digest 28 = .ok (.aload_n 0, 1) := by decide +kernel
theorem dX7_digest_29 : decode cX7_digest 29 = .ok (.aload_n 0, 1) := by decide +kernel
theorem dX7_digest_30 : decode cX7_digest 30 = .ok (.getfield 16, 3) := by decide +kernel
theorem dX7_digest_33 : decode cX7_digest 33 = .ok (.iload_n 1, 1) := by decide +kernel
theorem dX7_digest_34 : decode cX7_digest 34 = .ok (.iaload, 1) := by decide +kernel
theorem dX7_digest_35 : decode cX7_digest 35 = .ok (.i2l, 1) := by decide +kernel
theorem dX7_digest_36 : decode cX7_digest 36 = .ok (.invokevirtual 334, 3) := by decide +kernel
theorem dX7_digest_39 : decode cX7_digest 39 = .ok (.iinc 1 1, 3) := by decide +kernel
theorem dX7_digest_42 : decode cX7_digest 42 = .ok (.goto (-22), 3) := by decide +kernel
theorem dX7_digest_45 : decode cX7_digest 45 = .ok (.iconst 0, 1) := by decide +kernel
theorem dX7_digest_46 : decode cX7_digest 46 = .ok (.istore_n 1, 1) := by decide +kernel
theorem dX7_digest_47 : decode cX7_digest 47 = .ok (.iload_n 1, 1) := by decide +kernel
theorem dX7_digest_48 : decode cX7_digest 48 = .ok (.aload_n 0, 1) := by decide +kernel
theorem dX7_digest_49 : decode cX7_digest 49 = .ok (.getfield 93, 3) := by decide +kernel
theorem dX7_digest_52 : decode cX7_digest 52 = .ok (.if_icmp .ge 20, 3) := by decide +kernel
theorem dX7_digest_55 : decode cX7_digest 55 = .ok (.aload_n 0, 1) := by decide +kernel
theorem dX7_digest_56 : decode cX7_digest 56 = .ok (.aload_n 0, 1) := by decide +kernel
theorem dX7_digest_57 : decode cX7_digest 57 = .ok (.getfield 28, 3) := by decide +kernel
theorem dX7_digest_60 : decode cX7_digest 60 = .ok (.iload_n 1, 1) := by decide +kernel
theorem dX7_digest_61 : decode cX7_digest 61 = .ok (.baload, 1) := by decide +kernel
theorem dX7_digest_62 : decode cX7_digest 62 = .ok (.i2l, 1) := by decide +kernel
theorem dX7_digest_63 : decode cX7_digest 63 = .ok (.invokevirtual 334, 3) := by decide +kernel
theorem dX7_digest_66 : decode cX7_digest 66 = .ok (.iinc 1 1, 3) := by decide +kernel
theorem dX7_digest_69 : decode cX7_digest 69 = .ok (.goto (-22), 3) := by decide +kernel
theorem dX7_digest_72 : decode cX7_digest 72 = .ok (.iconst 0, 1) := by decide +kernel
theorem dX7_digest_73 : decode cX7_digest 73 = .ok (.istore_n 1, 1) := by decide +kernel
theorem dX7_digest_74 : decode cX7_digest 74 = .ok (.iload_n 1, 1) := by decide +kernel
theorem dX7_digest_75 : decode cX7_digest 75 = .ok (.bipush 12, 2) := by decide +kernel
theorem dX7_digest_77 : decode cX7_digest 77 = .ok (.if_icmp .ge 19, 3) := by decide +kernel
theorem dX7_digest_80 : decode cX7_digest 80 = .ok (.aload_n 0, 1) := by decide +kernel
theorem dX7_digest_81 : decode cX7_digest 81 = .ok (.aload_n 0, 1) := by decide +kernel
theorem dX7_digest_82 : decode cX7_digest 82 = .ok (.iload_n 1, 1) := by decide +kernel
theorem dX7_digest_83 : decode cX7_digest 83 = .ok (.invokevirtual 326, 3) := by decide +kernel
theorem dX7_digest_86 : decode cX7_digest 86 = .ok (.i2l, 1) := by decide +kernel
theorem dX7_digest_87 : decode cX7_digest 87 = .ok (.invokevirtual 334, 3) := by decide +kernel
theorem dX7_digest_90 : decode cX7_digest 90 = .ok (.iinc 1 1, 3) := by decide +kernel
theorem dX7_digest_93 : decode cX7_digest 93 = .ok (.goto (-19), 3) := by decide +kernel
theorem dX7_digest_96 : decode cX7_digest 96 = .ok (.aload_n 0, 1) := by decide +kernel
theorem dX7_digest_97 : decode cX7_digest 97 = .ok (.getfield 331, 3) := by decide +kernel
theorem dX7_digest_100 : decode cX7_digest 100 = .ok (.lreturn, 1) := by decide +kernel
theorem dJ6_bitCount_0f7a4_0 : decode cJ6_bitCount_0f7a4 0 = .ok (.iload_n 0, 1) := by decide +kernel
theorem dJ6_bitCount_0f7a4_1 : decode cJ6_bitCount_0f7a4 1 = .ok (.iload_n 0, 1) := by decide +kernel
theorem dJ6_bitCount_0f7a4_2 : decode cJ6_bitCount_0f7a4 2 = .ok (.iconst 1, 1) := by decide +kernel
theorem dJ6_bitCount_0f7a4_3 : decode cJ6_bitCount_0f7a4 3 = .ok (.iushr, 1) := by decide +kernel
theorem dJ6_bitCount_0f7a4_4 : decode cJ6_bitCount_0f7a4 4 = .ok (.ldc_w 265, 3) := by decide +kernel
theorem dJ6_bitCount_0f7a4_7 : decode cJ6_bitCount_0f7a4 7 = .ok (.iand, 1) := by decide +kernel
theorem dJ6_bitCount_0f7a4_8 : decode cJ6_bitCount_0f7a4 8 = .ok (.isub, 1) := by decide +kernel
theorem dJ6_bitCount_0f7a4_9 : decode cJ6_bitCount_0f7a4 9 = .ok (.istore_n 0, 1) := by decide +kernel
theorem dJ6_bitCount_0f7a4_10 : decode cJ6_bitCount_0f7a4 10 = .ok (.iload_n 0, 1) := by decide +kernel
theorem dJ6_bitCount_0f7a4_11 : decode cJ6_bitCount_0f7a4 11 = .ok (.ldc_w 266, 3) := by decide +kernel
theorem dJ6_bitCount_0f7a4_14 : decode cJ6_bitCount_0f7a4 14 = .ok (.iand, 1) := by decide +kernel
theorem dJ6_bitCount_0f7a4_15 : decode cJ6_bitCount_0f7a4 15 = .ok (.iload_n 0, 1) := by decide +kernel
theorem dJ6_bitCount_0f7a4_16 : decode cJ6_bitCount_0f7a4 16 = .ok (.iconst 2, 1) := by decide +kernel
theorem dJ6_bitCount_0f7a4_17 : decode cJ6_bitCount_0f7a4 17 = .ok (.iushr, 1) := by decide +kernel
theorem dJ6_bitCount_0f7a4_18 : decode cJ6_bitCount_0f7a4 18 = .ok (.ldc_w 266, 3) := by decide +kernel
theorem dJ6_bitCount_0f7a4_21 : decode cJ6_bitCount_0f7a4 21 = .ok (.iand, 1) := by decide +kernel
theorem dJ6_bitCount_0f7a4_22 : decode cJ6_bitCount_0f7a4 22 = .ok (.iadd, 1) := by decide +kernel
theorem dJ6_bitCount_0f7a4_23 : decode cJ6_bitCount_0f7a4 23 = .ok (.istore_n 0, 1) := by decide +kernel
theorem dJ6_bitCount_0f7a4_24 : decode cJ6_bitCount_0f7a4 24 = .ok (.iload_n 0, 1) := by decide +kernel
theorem dJ6_bitCount_0f7a4_25 : decode cJ6_bitCount_0f7a4 25 = .ok (.iload_n 0, 1) := by decide +kernel
theorem dJ6_bitCount_0f7a4_26 : decode cJ6_bitCount_0f7a4 26 = .ok (.iconst 4, 1) := by decide +kernel
theorem dJ6_bitCount_0f7a4_27 : decode cJ6_bitCount_0f7a4 27 = .ok (.iushr, 1) := by decide +kernel
theorem dJ6_bitCount_0f7a4_28 : decode cJ6_bitCount_0f7a4 28 = .ok (.iadd, 1) := by decide +kernel
theorem dJ6_bitCount_0f7a4_29 : decode cJ6_bitCount_0f7a4 29 = .ok (.ldc_w 267, 3) := by decide +kernel
theorem dJ6_bitCount_0f7a4_32 : decode cJ6_bitCount_0f7a4 32 = .ok (.iand, 1) := by decide +kernel
theorem dJ6_bitCount_0f7a4_33 : decode cJ6_bitCount_0f7a4 33 = .ok (.istore_n 0, 1) := by decide +kernel
theorem dJ6_bitCount_0f7a4_34 : decode cJ6_bitCount_0f7a4 34 = .ok (.iload_n 0, 1) := by decide +kernel
theorem dJ6_bitCount_0f7a4_35 : decode cJ6_bitCount_0f7a4 35 = .ok (.iload_n 0, 1) := by decide +kernel
theorem dJ6_bitCount_0f7a4_36 : decode cJ6_bitCount_0f7a4 36 = .ok (.bipush 8, 2) := by decide +kernel
theorem dJ6_bitCount_0f7a4_38 : decode cJ6_bitCount_0f7a4 38 = .ok (.iushr, 1) := by decide +kernel
theorem dJ6_bitCount_0f7a4_39 : decode cJ6_bitCount_0f7a4 39 = .ok (.iadd, 1) := by decide +kernel
theorem dJ6_bitCount_0f7a4_40 : decode cJ6_bitCount_0f7a4 40 = .ok (.istore_n 0, 1) := by decide +kernel
theorem dJ6_bitCount_0f7a4_41 : decode cJ6_bitCount_0f7a4 41 = .ok (.iload_n 0, 1) := by decide +kernel
theorem dJ6_bitCount_0f7a4_42 : decode cJ6_bitCount_0f7a4 42 = .ok (.iload_n 0, 1) := by decide +kernel
theorem dJ6_bitCount_0f7a4_43 : decode cJ6_bitCount_0f7a4 43 = .ok (.bipush 16, 2) := by decide +kernel
theorem dJ6_bitCount_0f7a4_45 : decode cJ6_bitCount_0f7a4 45 = .ok (.iushr, 1) := by decide +kernel
theorem dJ6_bitCount_0f7a4_46 : decode cJ6_bitCount_0f7a4 46 = .ok (.iadd, 1) := by decide +kernel
theorem dJ6_bitCount_0f7a4_47 : decode cJ6_bitCount_0f7a4 47 = .ok (.istore_n 0, 1) := by decide +kernel
theorem dJ6_bitCount_0f7a4_48 : decode cJ6_bitCount_0f7a4 48 = .ok (.iload_n 0, 1) := by decide +kernel
theorem dJ6_bitCount_0f7a4_49 : decode cJ6_bitCount_0f7a4 49 = .ok (.bipush 63, 2) := by decide +kernel
theorem dJ6_bitCount_0f7a4_51 : decode cJ6_bitCount_0f7a4 51 = .ok (.iand, 1) := by decide +kernel
theorem dJ6_bitCount_0f7a4_52 : decode cJ6_bitCount_0f7a4 52 = .ok (.ireturn, 1) := by decide +kernel
theorem dJ0_length_8abf5_0 : decode cJ0_length_8abf5 0 = .ok (.aload_n 0, 1) := by decide +kernel
theorem dJ0_length_8abf5_1 : decode cJ0_length_8abf5 1 = .ok (.getfield 9, 3) := by decide +kernel
theorem dJ0_length_8abf5_4 : decode cJ0_length_8abf5 4 = .ok (.arraylength, 1) := by decide +kernel
theorem dJ0_length_8abf5_5 : decode cJ0_length_8abf5 5 = .ok (.aload_n 0, 1) := by decide +kernel
theorem dJ0_length_8abf5_6 : decode cJ0_length_8abf5 6 = .ok (.invokevirtual 335, 3) := by decide +kernel
theorem dJ0_length_8abf5_9 : decode cJ0_length_8abf5 9 = .ok (.ishr, 1) := by decide +kernel
theorem dJ0_length_8abf5_10 : decode cJ0_length_8abf5 10 = .ok (.ireturn, 1) := by decide +kernel
theorem dJ0_indexOf_0f7a4_0 : decode cJ0_indexOf_0f7a4 0 = .ok (.aload_n 0, 1) := by decide +kernel
theorem dJ0_indexOf_0f7a4_1 : decode cJ0_indexOf_0f7a4 1 = .ok (.iload_n 1, 1) := by decide +kernel
theorem dJ0_indexOf_0f7a4_2 : decode cJ0_indexOf_0f7a4 2 = .ok (.iconst 0, 1) := by decide +kernel
theorem dJ0_indexOf_0f7a4_3 : decode cJ0_indexOf_0f7a4 3 = .ok (.invokevirtual 633, 3) := by decide +kernel
theorem dJ0_indexOf_0f7a4_6 : decode cJ0_indexOf_0f7a4 6 = .ok (.ireturn, 1) := by decide +kernel
theorem dJ0_indexOf_7cf53_0 : decode cJ0_indexOf_7cf53 0 = .ok (.aload_n 0, 1) := by decide +kernel
theorem dJ0_indexOf_7cf53_1 : decode cJ0_indexOf_7cf53 1 = .ok (.invokevirtual 492, 3) := by decide +kernel
theorem dJ0_indexOf_7cf53_4 : decode cJ0_indexOf_7cf53 4 = .ok (.ifCond .eq 19, 3) := by decide +kernel
theorem dJ0_indexOf_7cf53_7 : decode cJ0_indexOf_7cf53 7 = .ok (.aload_n 0, 1) := by decide +kernel
theorem dJ0_indexOf_7cf53_8 : decode cJ0_indexOf_7cf53 8 = .ok (.getfield 9, 3) := by decide +kernel
theorem dJ0_indexOf_7cf53_11 : decode cJ0_indexOf_7cf53 11 = .ok (.iload_n 1, 1) := by decide +kernel
theorem dJ0_indexOf_7cf53_12 : decode cJ0_indexOf_7cf53 12 = .ok (.iload_n 2, 1) := by decide +kernel
theorem dJ0_indexOf_7cf53_13 : decode cJ0_indexOf_7cf53 13 = .ok (.aload_n 0, 1) := by decide +kernel
theorem dJ0_indexOf_7cf53_14 : decode cJ0_indexOf_7cf53 14 = .ok (.invokevirtual 505, 3) := by decide +kernel
theorem dJ0_indexOf_7cf53_17 : decode cJ0_indexOf_7cf53 17 = .ok (.invokestatic 637, 3) := by decide +kernel
theorem dJ0_indexOf_7cf53_20 : decode cJ0_indexOf_7cf53 20 = .ok (.goto 16, 3) := by decide +kernel
theorem dJ0_indexOf_7cf53_23 : decode cJ0_indexOf_7cf53 23 = .ok (.aload_n 0, 1) := by decide +kernel
theorem dJ0_indexOf_7cf53_24 : decode cJ0_indexOf_7cf53 24 = .ok (.getfield 9, 3) := by decide +kernel
theorem dJ0_indexOf_7cf53_27 : decode cJ0_indexOf_7cf53 27 = .ok (.iload_n 1, 1) := by decide +kernel
theorem dJ0_indexOf_7cf53_28 : decode cJ0_indexOf_7cf53 28 = .ok (.iload_n 2, 1) := by decide +kernel
theorem dJ0_indexOf_7cf53_29 : decode cJ0_indexOf_7cf53 29 = .ok (.aload_n 0, 1) := by decide +kernel
theorem dJ0_indexOf_7cf53_30 : decode cJ0_indexOf_7cf53 30 = .ok (.invokevirtual 505, 3) := by decide +kernel
theorem dJ0_indexOf_7cf53_33 : decode cJ0_indexOf_7cf53 33 = .ok (.invokestatic 640, 3) := by decide +kernel
theorem dJ0_indexOf_7cf53_36 : decode cJ0_indexOf_7cf53 36 = .ok (.ireturn, 1) := by decide +kernel
theorem dJ0_coder_7d493_0 : decode cJ0_coder_7d493 0 = .ok (.getstatic 38, 3) := by decide +kernel
theorem dJ0_coder_7d493_3 : decode cJ0_coder_7d493 3 = .ok (.ifCond .eq 10, 3) := by decide +kernel
theorem dJ0_coder_7d493_6 : decode cJ0_coder_7d493 6 = .ok (.aload_n 0, 1) := by decide +kernel
theorem dJ0_coder_7d493_7 : decode cJ0_coder_7d493 7 = .ok (.getfield 15, 3) := by decide +kernel
theorem dJ0_coder_7d493_10 : decode cJ0_coder_7d493 10 = .ok (.goto 4, 3) := by decide +kernel
theorem dJ0_coder_7d493_13 : decode cJ0_coder_7d493 13 = .ok (.iconst 1, 1) := by decide +kernel
theorem dJ0_coder_7d493_14 : decode cJ0_coder_7d493 14 = .ok (.ireturn, 1) := by decide +kernel
theorem dJ0_isLatin1_aae02_0 : decode cJ0_isLatin1_aae02 0 = .ok (.getstatic 38, 3) := by decide +kernel
theorem dJ0_isLatin1_aae02_3 : decode cJ0_isLatin1_aae02 3 = .ok (.ifCond .eq 14, 3) := by decide +kernel
theorem dJ0_isLatin1_aae02_6 : decode cJ0_isLatin1_aae02 6 = .ok (.aload_n 0, 1) := by decide +kernel
theorem dJ0_isLatin1_aae02_7 : decode cJ0_isLatin1_aae02 7 = .ok (.getfield 15, 3) := by decide +kernel
theorem dJ0_isLatin1_aae02_10 : decode cJ0_isLatin1_aae02 10 = .ok (.ifCond .ne 7, 3) := by decide +kernel
theorem dJ0_isLatin1_aae02_13 : decode cJ0_isLatin1_aae02 13 = .ok (.iconst 1, 1) := by decide +kernel
theorem dJ0_isLatin1_aae02_14 : decode cJ0_isLatin1_aae02 14 = .ok (.goto 4, 3) := by decide +kernel
theorem dJ0_isLatin1_aae02_17 : decode cJ0_isLatin1_aae02 17 = .ok (.iconst 0, 1) := by decide +kernel
theorem dJ0_isLatin1_aae02_18 : decode cJ0_isLatin1_aae02 18 = .ok (.ireturn, 1) := by decide +kernel
theorem dJ1_canEncode_9a6ad_0 : decode cJ1_canEncode_9a6ad 0 = .ok (.iload_n 0, 1) := by decide +kernel
theorem dJ1_canEncode_9a6ad_1 : decode cJ1_canEncode_9a6ad 1 = .ok (.ifCond .lt 14, 3) := by decide +kernel
theorem dJ1_canEncode_9a6ad_4 : decode cJ1_canEncode_9a6ad 4 = .ok (.iload_n 0, 1) := by decide +kernel
theorem dJ1_canEncode_9a6ad_5 : decode cJ1_canEncode_9a6ad 5 = .ok (.sipush 255, 3) := by decide +kernel
theorem dJ1_canEncode_9a6ad_8 : decode cJ1_canEncode_9a6ad 8 = .ok (.if_icmp .gt 7, 3) := by decide +kernel
theorem dJ1_canEncode_9a6ad_11 : decode cJ1_canEncode_9a6ad 11 = .ok (.iconst 1, 1) := by decide +kernel
theorem dJ1_canEncode_9a6ad_12 : decode cJ1_canEncode_9a6ad 12 = .ok (.goto 4, 3) := by decide +kernel
theorem dJ1_canEncode_9a6ad_15 : decode cJ1_canEncode_9a6ad 15 = .ok (.iconst 0, 1) := by decide +kernel
theorem dJ1_canEncode_9a6ad_16 : decode cJ1_canEncode_9a6ad 16 = .ok (.ireturn, 1) := by decide +kernel
theorem dJ1_indexOf_4cfef_0 : decode cJ1_indexOf_4cfef 0 = .ok (.iload_n 1, 1) := by decide +kernel
theorem dJ1_indexOf_4cfef_1 : decode cJ1_indexOf_4cfef 1 = .ok (.invokestatic 88, 3) := by decide +kernel
theorem dJ1_indexOf_4cfef_4 : decode cJ1_indexOf_4cfef 4 = .ok (.ifCond .ne 5, 3) := by decide +kernel
theorem dJ1_indexOf_4cfef_7 : decode cJ1_indexOf_4cfef 7 = .ok (.iconst (-1), 1) := by decide +kernel
theorem dJ1_indexOf_4cfef_8 : decode cJ1_indexOf_4cfef 8 = .ok (.ireturn, 1) := by decide +kernel
theorem dJ1_indexOf_4cfef_9 : decode cJ1_indexOf_4cfef 9 = .ok (.iload_n 2, 1) := by decide +kernel
theorem dJ1_indexOf_4cfef_10 : decode cJ1_indexOf_4cfef 10 = .ok (.iconst 0, 1) := by decide +kernel
theorem dJ1_indexOf_4cfef_11 : decode cJ1_indexOf_4cfef 11 = .ok (.invokestatic 92, 3) := by decide +kernel
theorem dJ1_indexOf_4cfef_14 : decode cJ1_indexOf_4cfef 14 = .ok (.istore_n 2, 1) := by decide +kernel
theorem dJ1_indexOf_4cfef_15 : decode cJ1_indexOf_4cfef 15 = .ok (.iload_n 3, 1) := by decide +kernel
theorem dJ1_indexOf_4cfef_16 : decode cJ1_indexOf_4cfef 16 = .ok (.aload_n 0, 1) := by decide +kernel
theorem dJ1_indexOf_4cfef_17 : decode cJ1_indexOf_4cfef 17 = .ok (.arraylength, 1) := by decide +kernel
theorem dJ1_indexOf_4cfef_18 : decode cJ1_indexOf_4cfef 18 = .ok (.invokestatic 38, 3) := by decide +kernel
theorem dJ1_indexOf_4cfef_21 : decode cJ1_indexOf_4cfef 21 = .ok (.istore_n 3, 1) := by decide +kernel
theorem dJ1_indexOf_4cfef_22 : decode cJ1_indexOf_4cfef 22 = .ok (.iload_n 2, 1) := by decide +kernel
theorem dJ1_indexOf_4cfef_23 : decode cJ1_indexOf_4cfef 23 = .ok (.iload_n 3, 1) := by decide +kernel
theorem dJ1_indexOf_4cfef_24 : decode cJ1_indexOf_4cfef 24 = .ok (.if_icmp .lt 5, 3) := by decide +kernel
theorem dJ1_indexOf_4cfef_27 : decode cJ1_indexOf_4cfef 27 = .ok (.iconst (-1), 1) := by decide +kernel
theorem dJ1_indexOf_4cfef_28 : decode cJ1_indexOf_4cfef 28 = .ok (.ireturn, 1) := by decide +kernel
theorem dJ1_indexOf_4cfef_29 : decode cJ1_indexOf_4cfef 29 = .ok (.aload_n 0, 1) := by decide +kernel
theorem dJ1_indexOf_4cfef_30 : decode cJ1_indexOf_4cfef 30 = .ok (.iload_n 1, 1) := by decide +kernel
theorem dJ1_indexOf_4cfef_31 : decode cJ1_indexOf_4cfef 31 = .ok (.iload_n 2, 1) := by decide +kernel
theorem dJ1_indexOf_4cfef_32 : decode cJ1_indexOf_4cfef 32 = .ok (.iload_n 3, 1) := by decide +kernel
theorem dJ1_indexOf_4cfef_33 : decode cJ1_indexOf_4cfef 33 = .ok (.invokestatic 95, 3) := by decide +kernel
theorem dJ1_indexOf_4cfef_36 : decode cJ1_indexOf_4cfef 36 = .ok (.ireturn, 1) := by decide +kernel
theorem dJ1_indexOfChar_4cfef_0 : decode cJ1_indexOfChar_4cfef 0 = .ok (.iload_n 1, 1) := by decide +kernel
theorem dJ1_indexOfChar_4cfef_1 : decode cJ1_indexOfChar_4cfef 1 = .ok (.i2b, 1) := by decide +kernel
theorem dJ1_indexOfChar_4cfef_2 : decode cJ1_indexOfChar_4cfef 2 = .ok (.istore 4, 2) := by decide +kernel
theorem dJ1_indexOfChar_4cfef_4 : decode cJ1_indexOfChar_4cfef 4 = .ok (.iload_n 2, 1) := by decide +kernel
theorem dJ1_indexOfChar_4cfef_5 : decode cJ1_indexOfChar_4cfef 5 = .ok (.istore 5, 2) := by decide +kernel
theorem dJ1_indexOfChar_4cfef_7 : decode cJ1_indexOfChar_4cfef 7 = .ok (.iload 5, 2) := by decide +kernel
theorem dJ1_indexOfChar_4cfef_9 : decode cJ1_indexOfChar_4cfef 9 = .ok (.iload_n 3, 1) := by decide +kernel
theorem dJ1_indexOfChar_4cfef_10 : decode cJ1_indexOfChar_4cfef 10 = .ok (.if_icmp .ge 21, 3) := by decide +kernel
theorem dJ1_indexOfChar_4cfef_13 : decode cJ1_indexOfChar_4cfef 13 = .ok (.aload_n 0, 1) := by decide +kernel
theorem dJ1_indexOfChar_4cfef_14 : decode cJ1_indexOfChar_4cfef 14 = .ok (.iload 5, 2) := by decide +kernel
theorem dJ1_indexOfChar_4cfef_16 : decode cJ1_indexOfChar_4cfef 16 = .ok (.baload, 1) := by decide +kernel
theorem dJ1_indexOfChar_4cfef_17 : decode cJ1_indexOfChar_4cfef 17 = .ok (.iload 4, 2) := by decide +kernel
theorem dJ1_indexOfChar_4cfef_19 : decode cJ1_indexOfChar_4cfef 19 = .ok (.if_icmp .ne 6, 3) := by decide +kernel
theorem dJ1_indexOfChar_4cfef_22 : decode cJ1_indexOfChar_4cfef 22 = .ok (.iload 5, 2) := by decide +kernel
theorem dJ1_indexOfChar_4cfef_24 : decode cJ1_indexOfChar_4cfef 24 = .ok (.ireturn, 1) := by decide +kernel
theorem dJ1_indexOfChar_4cfef_25 : decode cJ1_indexOfChar_4cfef 25 = .ok (.iinc 5 1, 3) := by decide +kernel
theorem dJ1_indexOfChar_4cfef_28 : decode cJ1_indexOfChar_4cfef 28 = .ok (.goto (-21), 3) := by decide +kernel
theorem dJ1_indexOfChar_4cfef_31 : decode cJ1_indexOfChar_4cfef 31 = .ok (.iconst (-1), 1) := by decide +kernel
theorem dJ1_indexOfChar_4cfef_32 : decode cJ1_indexOfChar_4cfef 32 = .ok (.ireturn, 1) := by decide +kernel
theorem dJ7_fill_53178_0 : decode cJ7_fill_53178 0 = .ok (.iconst 0, 1) := by decide +kernel
theorem dJ7_fill_53178_1 : decode cJ7_fill_53178 1 = .ok (.istore_n 2, 1) := by decide +kernel
theorem dJ7_fill_53178_2 : decode cJ7_fill_53178 2 = .ok (.aload_n 0, 1) := by decide +kernel
theorem dJ7_fill_53178_3 : decode cJ7_fill_53178 3 = .ok (.arraylength, 1) := by decide +kernel
theorem dJ7_fill_53178_4 : decode cJ7_fill_53178 4 = .ok (.istore_n 3, 1) := by decide +kernel
theorem dJ7_fill_53178_5 : decode cJ7_fill_53178 5 = .ok (.iload_n 2, 1) := by decide +kernel
theorem dJ7_fill_53178_6 : decode cJ7_fill_53178 6 = .ok (.iload_n 3, 1) := by decide +kernel
theorem dJ7_fill_53178_7 : decode cJ7_fill_53178 7 = .ok (.if_icmp .ge 13, 3) := by decide +kernel
theorem dJ7_fill_53178_10 : decode cJ7_fill_53178 10 = .ok (.aload_n 0, 1) := by decide +kernel
theorem dJ7_fill_53178_11 : decode cJ7_fill_53178 11 = .ok (.iload_n 2, 1) := by decide +kernel
theorem dJ7_fill_53178_12 : decode cJ7_fill_53178 12 = .ok (.iload_n 1, 1) := by decide +kernel
theorem dJ7_fill_53178_13 : decode cJ7_fill_53178 13 = .ok (.iastore, 1) := by decide +kernel
theorem dJ7_fill_53178_14 : decode cJ7_fill_53178 14 = .ok (.iinc 2 1, 3) := by decide +kernel
theorem dJ7_fill_53178_17 : decode cJ7_fill_53178 17 = .ok (.goto (-12), 3) := by decide +kernel
theorem dJ7_fill_53178_20 : decode cJ7_fill_53178 20 = .ok (.return_, 1) := by decide +kernel
end
section
/-! THE STATE AS A MEMORY: cells by their number, each a row of ints; a world is the list of these cells at their addresses -/
abbrev SF : Type := Nat → Nat → Int32
def zsr (σ : SF) (c : Nat) (r : Nat → Int32) : SF := fun i => if i = c then r else σ i
def zst (σ : SF) (c k : Nat) (v : Int32) : SF := zsr σ c (upd (σ c) k v)
/-- a long in two ints -/
def zLo (v : Int64) : Int32 := Int32.ofBitVec (v.toBitVec.extractLsb' 0 32)
def zHi (v : Int64) : Int32 := Int32.ofBitVec (v.toBitVec.extractLsb' 32 32)
def zLg (a b : Int32) : Int64 := Int64.ofBitVec (b.toBitVec ++ a.toBitVec)
theorem zLg_of (v : Int64) : zLg (zLo v) (zHi v) = v := by
  apply Int64.toBitVec_inj.mp
  show (v.toBitVec.extractLsb' 32 32 ++ v.toBitVec.extractLsb' 0 32) = v.toBitVec
  apply BitVec.eq_of_getLsbD_eq
  intro i hi
  simp only [BitVec.getLsbD_append, BitVec.getLsbD_extractLsb']
  by_cases h : i < 32
  · simp [h]
  · simp [h]
    have h2 : i - 32 < 32 := by omega
    have h3 : 32 + (i - 32) = i := by omega
    simp [h2, h3]
def zgL (σ : SF) (c k : Nat) : Int64 := zLg (σ c k) (σ c (k + 100))
def zsL (σ : SF) (c k : Nat) (v : Int64) : SF := zsr σ c (upd (upd (σ c) k (zLo v)) (k + 100) (zHi v))
abbrev zG : Type := va_G × (Nat → Nat) × ClassId × ClassId × Nat × Nat
abbrev za (G : zG) (i : Nat) : Nat := G.2.1 i
abbrev zB : Type := Nat → (Nat → Int32) → va_E
abbrev zWd : Type := Nat × (zG → zB)
def zFW (N : Nat) (B : zB) (a : Nat → Nat) (σ : SF) : va_W := (List.range N).map (fun i => (a i, B i (σ i)))
theorem zFW_at {N : Nat} {B : zB} {a : Nat → Nat} {σ : SF} {c : Nat} (hc : c < N) : (zFW N B a σ)[c]? = some (a c, B c (σ c)) := by
  simp [zFW, hc]
theorem zFW_set {N : Nat} {B : zB} {a : Nat → Nat} {σ : SF} {c : Nat} {r : Nat → Int32} (hc : c < N) : (zFW N B a σ).set c (a c, B c r) = zFW N B a (zsr σ c r) := by
  apply List.ext_getElem?
  intro i
  by_cases hi : i = c
  · subst hi
    rw [List.getElem?_set_self (by simp [zFW, hc]), zFW_at hc]
    simp [zsr]
  · rw [List.getElem?_set_ne (Ne.symm hi)]
    by_cases h2 : i < N
    · rw [zFW_at h2, zFW_at h2]; simp [zsr, hi]
    · simp [zFW, h2]
def zA (N : Nat) (a : Nat → Nat) (sz : Nat) : Nat → Prop := fun q => (∃ k, k < N ∧ q = a k) ∨ sz ≤ q
theorem zA_D {N : Nat} {B : zB} {a : Nat → Nat} {σ : SF} {sz : Nat} (inj : ∀ i j, i < N → j < N → a i = a j → i = j) : va_D (zA N a sz) (zFW N B a σ) := by
  have key : ∀ (i : Nat) (p : Nat × va_E), (zFW N B a σ)[i]? = some p → i < N ∧ p.1 = a i := by
    intro i p h
    have hi : i < N := by
      have := (List.getElem?_eq_some_iff.mp h).1
      simpa [zFW] using this
    rw [zFW_at hi] at h
    cases h
    exact ⟨hi, rfl⟩
  refine ⟨fun i j p q hp hq e => ?_, fun k q hq => ?_⟩
  · obtain ⟨h1, h2⟩ := key i p hp
    obtain ⟨h3, h4⟩ := key j q hq
    exact inj i j h1 h3 (by rw [← h2, ← h4]; exact e)
  · obtain ⟨h1, h2⟩ := key k q hq
    exact Or.inl ⟨k, h1, h2⟩
theorem zA_mono {N : Nat} {a : Nat → Nat} {s1 s2 : Nat} (h : s1 ≤ s2) {q : Nat} (hq : zA N a s2 q) : zA N a s1 q := hq.elim Or.inl (fun z => Or.inr (Nat.le_trans h z))
def zW (w : zWd) (G : zG) (σ : SF) : va_W := zFW w.1 (w.2 G) G.2.1 σ
abbrev zAA (w : zWd) (G : zG) (sz : Nat) : Nat → Prop := zA w.1 G.2.1 sz
/-- what never changes: the cells' numbers are apart, the tables, the nest's links, the text of the kinds -/
def zK (w : zWd) (G : zG) (sz : Nat) (U : State) : Prop :=
  (∀ i j, i < w.1 → j < w.1 → G.2.1 i = G.2.1 j → i = j) ∧ va_K G.1 vwCl [(G.2.2.1, .int), (G.2.2.2.1, .byte)] U ∧ (∀ x ∈ NL, va_Nw x U) ∧ vk_R RX2 41 "nfext" G.2.2.2.2.1 U ∧
  va_Z "java/lang/String" "COMPACT_STRINGS" "Z" (.int 1) (zAA w G sz) U U.heap ∧ vk_S 1 [5] [[110, 102, 101, 120, 116]] (fun _ => G.2.2.2.2.1) (fun _ => G.2.2.2.2.2) (zAA w G sz) U U.heap
theorem zNL_warm {s U : State} (hW : s.WarmedH U.vm) (h : ∀ x ∈ NL, va_Nw x s) : ∀ x ∈ NL, va_Nw x U := by
  intro x hx
  have h1 := h x hx
  simp only [NL, List.mem_cons, List.not_mem_nil, or_false] at hx
  rcases hx with rfl | rfl | rfl | rfl | rfl | rfl | rfl | rfl | rfl | rfl | rfl <;> exact va_Nw.warmM hW h1
theorem zNL_same {s U : State} (hv : s.vm = U.vm) (h : ∀ x ∈ NL, va_Nw x s) : ∀ x ∈ NL, va_Nw x U := by
  intro x hx
  have h1 := h x hx
  simp only [NL, List.mem_cons, List.not_mem_nil, or_false] at hx
  rcases hx with rfl | rfl | rfl | rfl | rfl | rfl | rfl | rfl | rfl | rfl | rfl <;> exact va_Nw.same rfl hv h1
/-- the state of a walk -/
def zI (w : zWd) (G : zG) (s : State) (σ : SF) (H : Heap) (locs : List Loc) : Prop := va_P G.1 vwCl (zW w G σ) H ∧ va_S (zAA w G s.heap.size) s.heap H locs
def zC (w : zWd) (G : zG) (own : String) (args : Array Value) (s : State) (m : MethodId) : Prop := s.vm.findClass own = some m.cls ∧ (∀ x ∈ AW, x.before args s = true) ∧ zK w G s.heap.size s
theorem zC.ts {w : zWd} {G : zG} {own : String} {args : Array Value} {s : State} {m : MethodId} (h : zC w G own args s m) {x : Cond} (hx : x ∈ AW) : x.before args s = true := h.2.1 x hx
theorem zC.D {w : zWd} {G : zG} {own : String} {args : Array Value} {s : State} {m : MethodId} (h : zC w G own args s m) (σ : SF) : va_D (zAA w G s.heap.size) (zW w G σ) := zA_D h.2.2.1
theorem zC.K {w : zWd} {G : zG} {own : String} {args : Array Value} {s : State} {m : MethodId} (h : zC w G own args s m) : va_K G.1 vwCl [(G.2.2.1, .int), (G.2.2.2.1, .byte)] s := h.2.2.2.1
/-- the room of a method that calls at most d deep -/
abbrev zR (d : Nat) : Room := { frames := d, cells := 0, slots := 0, locals := 100 * d }
def zPr (w : zWd) (G : zG) (av : List Value) (σ : SF) (sz : Nat) : Array Value → State → Prop := va_Pc av (fun U => U.heap.size = sz ∧ zK w G sz U ∧ va_P G.1 vwCl (zW w G σ) U.heap)
def zPo (w : zWd) (G : zG) (σ : SF) (_ : Unit) (t : State) : Prop := va_P G.1 vwCl (zW w G σ) t.heap
def zMi (l : Launch) (w : zWd) (G : zG) (y : MethodName) (c : ByteArray) (n : Nat) (rt : FieldType) (d : Nat) (av : List Value) (σ : SF) (r : Int32) (σ' : SF) : Prop :=
  ∀ sz, Met l y (.code y c n (some rt) :: AW) (zR d) (zPr w G av σ sz) (va_Qi (fun r1 (_ : Unit) => r1 = r) (zPo w G σ') (zAA w G sz)) 0 0 (zAA w G sz)
def zMl (l : Launch) (w : zWd) (G : zG) (y : MethodName) (c : ByteArray) (n : Nat) (d : Nat) (av : List Value) (σ : SF) (r : Int64) (σ' : SF) : Prop :=
  ∀ sz, Met l y (.code y c n (some .long) :: AW) (zR d) (zPr w G av σ sz) (va_Ql (fun r1 (_ : Unit) => r1 = r) (zPo w G σ') (zAA w G sz)) 0 0 (zAA w G sz)
def zMv (l : Launch) (w : zWd) (G : zG) (y : MethodName) (c : ByteArray) (n : Nat) (d : Nat) (av : List Value) (σ : SF) (σ' : SF) : Prop :=
  ∀ sz, Met l y (.code y c n none :: AW) (zR d) (zPr w G av σ sz) (va_Qv (fun (_ : Unit) => True) (zPo w G σ') (zAA w G sz)) 0 0 (zAA w G sz)
theorem zGood {w1 w2 : Cond} (h : w2 ∈ AW) : GoodIn (w1 :: AW) (w2 :: AW) := fun w hw => (List.mem_cons.mp hw).elim (fun e => by subst e; exact ⟨List.mem_cons_of_mem _ h, AW_good h⟩) (fun h' => ⟨List.mem_cons_of_mem _ h', AW_good h'⟩)
theorem zGoodA {w2 : Cond} (h : w2 ∈ AW) : GoodIn AW (w2 :: AW) := fun w hw => (List.mem_cons.mp hw).elim (fun e => by subst e; exact ⟨h, AW_good h⟩) (fun h' => ⟨h', AW_good h'⟩)
theorem zK_blind {w : zWd} {G : zG} {sz : Nat} {U : State} {g : JFrame} {mk : MethodId} {a : Array Value} (h : zK w G sz U) : zK w G sz (U.calling g mk a) := by
  obtain ⟨h1, h2, h3, h4, h5, h6⟩ := h
  exact ⟨h1, va_K.moved (u := U) (U := U.calling g mk a) (Vm.Alike.refl U.vm) h2, zNL_same (s := U) (U := U.calling g mk a) rfl h3, vk_R.same (u := U) (U := U.calling g mk a) rfl h4,
    va_Z.moved (u := U) (U := U.calling g mk a) (Vm.Alike.refl U.vm) h5, vk_S.moved (u := U) (U := U.calling g mk a) (Vm.Alike.refl U.vm) h6⟩
theorem zPr_blind {w : zWd} {G : zG} {av : List Value} {σ : SF} {sz : Nat} : FrameBlind (zPr w G av σ sz) := fun _ _ _ _ q => ⟨q.1, q.2.1, zK_blind q.2.2.1, q.2.2.2⟩
theorem zK_call {w : zWd} {G : zG} {s U : State} {H : Heap} {locs : List Loc} (h : zK w G s.heap.size s) (hS : va_S (zAA w G s.heap.size) s.heap H locs) (hU : U.heap = H) (hW : s.WarmedH U.vm) : zK w G H.size U := by
  obtain ⟨h1, h2, h3, h4, h5, h6⟩ := h
  have hk : ∀ q : Nat, zAA w G H.size q → zAA w G s.heap.size q := fun q hq => zA_mono hS.1 hq
  refine ⟨h1, va_K.moved hW.alike h2, zNL_warm hW h3, vk_R.warm hW h4, ?_, ?_⟩
  · rw [hU]
    exact ((va_Z.moved hW.alike h5).kept hS.2.1).narrow hk
  · rw [hU]
    exact ((vk_S.moved hW.alike h6).kept hS.2.1).narrow hk
theorem zPr_call {w : zWd} {G : zG} {av : List Value} {σ : SF} {s : State} {H : Heap} {locs : List Loc} (h : zK w G s.heap.size s) (hI : zI w G s σ H locs) : ∀ U : State, U.heap = H → s.WarmedH U.vm → zPr w G av σ H.size av.toArray U :=
  fun U hU hW => ⟨rfl, by rw [hU], zK_call h hI.2 hU hW, by rw [hU]; exact hI.1⟩
/-- what the tables say of a method that is called -/
def zYv (y : MethodName) (c : ByteArray) (n : Nat) (rt : Option FieldType) (C : String) (k : Nat) : Prop :=
  Cond.instanceMethod y ∈ AW ∧ Cond.selects C y y ∈ AW ∧ Cond.code y c n rt ∈ AW ∧ Cond.initialized y.cls ∈ AW ∧ y.cls ≠ "java/lang/invoke/MethodHandle" ∧ y.cls ≠ "java/lang/invoke/VarHandle" ∧ (parseMethodDescriptor y.desc).map (fun d => d.parameters.length) = some k
def zYs (y : MethodName) (c : ByteArray) (n : Nat) (rt : Option FieldType) (k : Nat) : Prop :=
  Cond.static y ∈ AW ∧ Cond.code y c n rt ∈ AW ∧ Cond.initialized y.cls ∈ AW ∧ y.cls ≠ "java/lang/invoke/MethodHandle" ∧ y.cls ≠ "java/lang/invoke/VarHandle" ∧ (parseMethodDescriptor y.desc).map (fun d => d.parameters.length) = some k
/-- a cell that is an object of class ci, its fields by its row; an array of ints, of bytes -/
def zO (w : zWd) (G : zG) (c ci : Nat) (f : (Nat → Int32) → List Value) : Prop := c < w.1 ∧ ∀ r, w.2 G c r = .inr (ci, f r)
def zV (w : zWd) (G : zG) (c n : Nat) : Prop := c < w.1 ∧ ∀ r, w.2 G c r = .inl (G.2.2.1, n, .inl r)
def zV8 (w : zWd) (G : zG) (c n : Nat) : Prop := c < w.1 ∧ ∀ r, w.2 G c r = .inl (G.2.2.2.1, n, .inl r)
theorem zO.at {w : zWd} {G : zG} {c ci : Nat} {f : (Nat → Int32) → List Value} (h : zO w G c ci f) (σ : SF) : (zW w G σ)[c]? = some (za G c, .inr (ci, f (σ c))) := by
  rw [← h.2 (σ c)]; exact zFW_at h.1
theorem zV.at {w : zWd} {G : zG} {c n : Nat} (h : zV w G c n) (σ : SF) : (zW w G σ)[c]? = some (za G c, .inl (G.2.2.1, n, .inl (σ c))) := by
  rw [← h.2 (σ c)]; exact zFW_at h.1
theorem zV8.at {w : zWd} {G : zG} {c n : Nat} (h : zV8 w G c n) (σ : SF) : (zW w G σ)[c]? = some (za G c, .inl (G.2.2.2.1, n, .inl (σ c))) := by
  rw [← h.2 (σ c)]; exact zFW_at h.1
/-! the parts of the pure functions: a name, a guard, a call -/
def zl {α β : Type} (e : α) (f : α → Option β) : Option β := f e
def zg {β : Type} (b : Bool) (x : Option β) : Option β := if b then x else none
def zb {α β : Type} (m : Option α) (f : α → Option β) : Option β := match m with
  | none => none
  | some x => f x
def zb2 {A B β : Type} (m : Option (A × B)) (f : A → B → Option β) : Option β := match m with
  | none => none
  | some (x, y) => f x y
def zb3 {A B C β : Type} (m : Option (A × B × C)) (f : A → B → C → Option β) : Option β := match m with
  | none => none
  | some (x, y, z) => f x y z
def zb4 {A B C D β : Type} (m : Option (A × B × C × D)) (f : A → B → C → D → Option β) : Option β := match m with
  | none => none
  | some (x, y, z, u) => f x y z u
def zb5 {A B C D E β : Type} (m : Option (A × B × C × D × E)) (f : A → B → C → D → E → Option β) : Option β := match m with
  | none => none
  | some (x, y, z, u, v) => f x y z u v
def zb6 {A B C D E F β : Type} (m : Option (A × B × C × D × E × F)) (f : A → B → C → D → E → F → Option β) : Option β := match m with
  | none => none
  | some (x, y, z, u, v, t) => f x y z u v t
/-- a loop that may end its method (inl) or be left (inr) -/
def zs {ρ α β : Type} (m : Option (ρ ⊕ α)) (g : ρ → Option β) (f : α → Option β) : Option β := match m with
  | none => none
  | some (.inl r) => g r
  | some (.inr x) => f x
theorem zl_e {α β : Type} {e : α} {f : α → Option β} {z : β} (h : zl e f = some z) {x : α} (hx : x = e) : f x = some z := by subst hx; exact h
theorem zg_e {β : Type} {b : Bool} {x : Option β} {z : β} (h : zg b x = some z) : b = true ∧ x = some z := by
  unfold zg at h
  cases b with
  | true => exact ⟨rfl, h⟩
  | false => cases h
theorem zb_e {α β : Type} {m : Option α} {f : α → Option β} {z : β} (h : zb m f = some z) : ∃ x, m = some x ∧ f x = some z := by
  cases m with
  | none => cases h
  | some x => exact ⟨x, rfl, h⟩
theorem zb2_e {A B β : Type} {m : Option (A × B)} {f : A → B → Option β} {z : β} (h : zb2 m f = some z) : ∃ x y, m = some (x, y) ∧ f x y = some z := by
  cases m with
  | none => cases h
  | some u => obtain ⟨x, y⟩ := u; exact ⟨x, y, rfl, h⟩
theorem zb3_e {A B C β : Type} {m : Option (A × B × C)} {f : A → B → C → Option β} {z : β} (h : zb3 m f = some z) : ∃ x y t, m = some (x, y, t) ∧ f x y t = some z := by
  cases m with
  | none => cases h
  | some u => obtain ⟨x, y, t⟩ := u; exact ⟨x, y, t, rfl, h⟩
theorem zb4_e {A B C D β : Type} {m : Option (A × B × C × D)} {f : A → B → C → D → Option β} {z : β} (h : zb4 m f = some z) : ∃ x y t u, m = some (x, y, t, u) ∧ f x y t u = some z := by
  cases m with
  | none => cases h
  | some u => obtain ⟨x, y, t, v⟩ := u; exact ⟨x, y, t, v, rfl, h⟩
theorem zb5_e {A B C D E β : Type} {m : Option (A × B × C × D × E)} {f : A → B → C → D → E → Option β} {z : β} (h : zb5 m f = some z) : ∃ x y t u v, m = some (x, y, t, u, v) ∧ f x y t u v = some z := by
  cases m with
  | none => cases h
  | some u => obtain ⟨x, y, t, v, w⟩ := u; exact ⟨x, y, t, v, w, rfl, h⟩
theorem zb6_e {A B C D E F β : Type} {m : Option (A × B × C × D × E × F)} {f : A → B → C → D → E → F → Option β} {z : β} (h : zb6 m f = some z) : ∃ x y t u v w, m = some (x, y, t, u, v, w) ∧ f x y t u v w = some z := by
  cases m with
  | none => cases h
  | some u => obtain ⟨x, y, t, v, w, q⟩ := u; exact ⟨x, y, t, v, w, q, rfl, h⟩
theorem zs_e {ρ α β : Type} {m : Option (ρ ⊕ α)} {g : ρ → Option β} {f : α → Option β} {z : β} (h : zs m g f = some z) : ∃ u, m = some u ∧ (∀ r, u = .inl r → g r = some z) ∧ (∀ x, u = .inr x → f x = some z) := by
  cases m with
  | none => cases h
  | some u =>
    refine ⟨u, rfl, ?_, ?_⟩
    · intro r hr; subst hr; exact h
    · intro r hr; subst hr; exact h
theorem zi_t {α : Type} {c : Prop} {dc : Decidable c} {x y : Option α} {z : α} (hc : c) (h : (@ite _ c dc x y) = some z) : x = some z := by rw [if_pos hc] at h; exact h
theorem zi_f {α : Type} {c : Prop} {dc : Decidable c} {x y : Option α} {z : α} (hc : ¬ c) (h : (@ite _ c dc x y) = some z) : y = some z := by rw [if_neg hc] at h; exact h
/-- an index within, as a bool -/
def zin (i : Int32) (n : Nat) : Bool := !(decide (i < 0) || decide (n ≤ i.toNatClampNeg))
theorem zin_p {i : Int32} {n : Nat} (h : zin i n = true) : vp_in i n := by
  intro q
  simp only [zin, Bool.not_eq_true', Bool.or_eq_false_iff, decide_eq_false_iff_not] at h
  exact q.elim h.1 h.2
def znz (i : Int32) : Bool := !(decide (i = 0))
theorem znz_p {i : Int32} (h : znz i = true) : ¬ i = 0 := by
  simpa [znz] using h
def znzL (i : Int64) : Bool := !(decide (i = 0))
theorem znzL_p {i : Int64} (h : znzL i = true) : ¬ i = 0 := by
  simpa [znzL] using h
theorem zne_toInt {x k : Int32} (h : ¬ x = k) : x.toInt ≠ k.toInt := fun e => h (Int32.toInt_inj.mp e)
end
section
theorem zW_set {w : zWd} {G : zG} {σ : SF} {q : Nat} {r : Nat → Int32} (hc : q < w.1) : (zW w G σ).set q (za G q, w.2 G q r) = zW w G (zsr σ q r) := zFW_set hc
section ZR
variable {p : Program} {l : Launch} {e : Env} {R : Room} {s : State} {m : MethodId} {args : Array Value} {below : List Frame} {meth : Method} {c : Code} {H : Heap} {locs : List Loc} {cells slots : Nat} {Q : State → Prop}
variable {cc : ByteArray} {pc : Nat} {ls : Array Slot} {rest : List Value} {w : zWd} {G : zG} {own : String} {σ : SF}
theorem z_get (hx : p.tables.exec = Jvm.exec) (hb : c.code = cc) (hC : zC w G own args s m) (hI : zI w G s σ H locs) {q ci N index : Nat} {f : (Nat → Int32) → List Value} {C ref : String} {T : u_T} (ho : zO w G q ci f) (hc : vwCl[ci]? = some (C, T, N)) (hin : ∀ x ∈ u_ws C T N, x ∈ AW) (k : Nat) (hk : k < N) (href : (T k).1 = ref) {v : Value} (hv : (f (σ q))[k]? = some v)
    (hl : Cond.fieldLink own index ref (T k).2.1 (T k).2.2.1 ∈ AW) (hdg : decode cc pc = .ok (.getfield index, 3))
    (kk : W p l e R s m args below meth c H locs cells slots Q (F0 m (pc + 3) ls (v :: rest))) : W p l e R s m args below meth c H locs cells slots Q (F0 m pc ls (.ref (za G q) :: rest)) :=
  va_get (Ts := AW) hx hb hC.2.1 hin hC.1 hC.K hI.1 q (ho.at σ) hc k hk (hC.ts hl) (by rw [href]; exact fun _ h => h) hv hdg kk
theorem z_put (hx : p.tables.exec = Jvm.exec) (hb : c.code = cc) (hC : zC w G own args s m) (hI : zI w G s σ H locs) {q ci N index : Nat} {f : (Nat → Int32) → List Value} {C ref : String} {T : u_T} (ho : zO w G q ci f) (hc : vwCl[ci]? = some (C, T, N)) (hin : ∀ x ∈ u_ws C T N, x ∈ AW)
    (ty0 : Nat → FieldType) (hty : ∀ k, k < N → parseFieldDescriptor (T k).2.2.1 = some (ty0 k)) (hnm : ∀ a, a < N → ∀ b, b < N → a ≠ b → (T a).2.1 ≠ (T b).2.1) (k : Nat) (hk : k < N) (href : (T k).1 = ref) (hfin : (T k).2.2.2 = false) {v : Int32} {ty : FieldType} (hd : parseFieldDescriptor (T k).2.2.1 = some ty) (hn : narrow ty (.int v) = .int v) (hfit : fits ty (.int v) = true) (hlen : k < (f (σ q)).length) (hset : f (upd (σ q) k v) = (f (σ q)).set k (.int v))
    (hl : Cond.fieldLink own index ref (T k).2.1 (T k).2.2.1 ∈ AW) (hdg : decode cc pc = .ok (.putfield index, 3))
    (kk : ∀ (σ1 : SF) (H1 : Heap) (locs1 : List Loc), σ1 = zst σ q k v → zI w G s σ1 H1 locs1 → W p l e R s m args below meth c H1 locs1 cells slots Q (F0 m (pc + 3) ls rest)) : W p l e R s m args below meth c H locs cells slots Q (F0 m pc ls (.int v :: .ref (za G q) :: rest)) := by
  refine va_put (Ts := AW) hx hb hC.2.1 hin ty0 hty hnm hC.1 hC.K hI.1 (hC.D σ) hI.2 q (ho.at σ) hc k hk (hC.ts hl) (by rw [href]; exact fun _ h => h) hfin hd hn hfit hlen hdg (fun H1 locs1 hP _ hS => ?_)
  refine kk _ H1 locs1 rfl ⟨?_, hS⟩
  rw [← hset, ← ho.2] at hP
  rw [zW_set ho.1] at hP
  exact hP
theorem z_putL (hx : p.tables.exec = Jvm.exec) (hb : c.code = cc) (hC : zC w G own args s m) (hI : zI w G s σ H locs) {q ci N index : Nat} {f : (Nat → Int32) → List Value} {C ref : String} {T : u_T} (ho : zO w G q ci f) (hc : vwCl[ci]? = some (C, T, N)) (hin : ∀ x ∈ u_ws C T N, x ∈ AW)
    (ty0 : Nat → FieldType) (hty : ∀ k, k < N → parseFieldDescriptor (T k).2.2.1 = some (ty0 k)) (hnm : ∀ a, a < N → ∀ b, b < N → a ≠ b → (T a).2.1 ≠ (T b).2.1) (k : Nat) (hk : k < N) (href : (T k).1 = ref) (hfin : (T k).2.2.2 = false) {v : Int64} {ty : FieldType} (hd : parseFieldDescriptor (T k).2.2.1 = some ty) (hn : narrow ty (.long v) = .long v) (hfit : fits ty (.long v) = true) (hlen : k < (f (σ q)).length) (hset : f (upd (upd (σ q) k (zLo v)) (k + 100) (zHi v)) = (f (σ q)).set k (.long v))
    (hl : Cond.fieldLink own index ref (T k).2.1 (T k).2.2.1 ∈ AW) (hdg : decode cc pc = .ok (.putfield index, 3))
    (kk : ∀ (σ1 : SF) (H1 : Heap) (locs1 : List Loc), σ1 = zsL σ q k v → zI w G s σ1 H1 locs1 → W p l e R s m args below meth c H1 locs1 cells slots Q (F0 m (pc + 3) ls rest)) : W p l e R s m args below meth c H locs cells slots Q (F0 m pc ls (.long v :: .ref (za G q) :: rest)) := by
  refine va_put (Ts := AW) hx hb hC.2.1 hin ty0 hty hnm hC.1 hC.K hI.1 (hC.D σ) hI.2 q (ho.at σ) hc k hk (hC.ts hl) (by rw [href]; exact fun _ h => h) hfin hd hn hfit hlen hdg (fun H1 locs1 hP _ hS => ?_)
  refine kk _ H1 locs1 rfl ⟨?_, hS⟩
  rw [← hset, ← ho.2] at hP
  rw [zW_set ho.1] at hP
  exact hP
theorem z_iald (hx : p.tables.exec = Jvm.exec) (hb : c.code = cc) (hC : zC w G own args s m) (hI : zI w G s σ H locs) {q n : Nat} (hv : zV w G q n) {i : Int32} (hin : zin i n = true) (hdg : decode cc pc = .ok (.iaload, 1))
    (kk : W p l e R s m args below meth c H locs cells slots Q (F0 m (pc + 1) ls (.int (σ q i.toNatClampNeg) :: rest))) : W p l e R s m args below meth c H locs cells slots Q (F0 m pc ls (.int i :: .ref (za G q) :: rest)) :=
  va_iald hx hb hC.K hI.1 q 0 (hv.at σ) rfl (zin_p hin) hdg kk
theorem z_iast (hx : p.tables.exec = Jvm.exec) (hb : c.code = cc) (hC : zC w G own args s m) (hI : zI w G s σ H locs) {q n : Nat} (hv : zV w G q n) {i x : Int32} (hin : zin i n = true) (hdg : decode cc pc = .ok (.iastore, 1))
    (kk : ∀ (σ1 : SF) (H1 : Heap) (locs1 : List Loc), σ1 = zst σ q i.toNatClampNeg x → zI w G s σ1 H1 locs1 → W p l e R s m args below meth c H1 locs1 cells slots Q (F0 m (pc + 1) ls rest)) : W p l e R s m args below meth c H locs cells slots Q (F0 m pc ls (.int x :: .int i :: .ref (za G q) :: rest)) := by
  refine va_iast hx hb hC.K hI.1 (hC.D σ) hI.2 q 0 (hv.at σ) rfl (zin_p hin) hdg (fun H1 locs1 hP _ hS => ?_)
  refine kk _ H1 locs1 rfl ⟨?_, hS⟩
  rw [← hv.2] at hP
  rw [zW_set hv.1] at hP
  exact hP
theorem z_bald (hx : p.tables.exec = Jvm.exec) (hb : c.code = cc) (hC : zC w G own args s m) (hI : zI w G s σ H locs) {q n : Nat} (hv : zV8 w G q n) {i : Int32} (hin : zin i n = true) (hdg : decode cc pc = .ok (.baload, 1))
    (kk : W p l e R s m args below meth c H locs cells slots Q (F0 m (pc + 1) ls (.int (σ q i.toNatClampNeg) :: rest))) : W p l e R s m args below meth c H locs cells slots Q (F0 m pc ls (.int i :: .ref (za G q) :: rest)) :=
  va_bald hx hb hC.K hI.1 q 1 (hv.at σ) rfl (zin_p hin) hdg kk
theorem z_bast (hx : p.tables.exec = Jvm.exec) (hb : c.code = cc) (hC : zC w G own args s m) (hI : zI w G s σ H locs) {q n : Nat} (hv : zV8 w G q n) {i x : Int32} (hin : zin i n = true) (hdg : decode cc pc = .ok (.bastore, 1))
    (kk : ∀ (σ1 : SF) (H1 : Heap) (locs1 : List Loc), σ1 = zst σ q i.toNatClampNeg (vp_nar .byte x) → zI w G s σ1 H1 locs1 → W p l e R s m args below meth c H1 locs1 cells slots Q (F0 m (pc + 1) ls rest)) : W p l e R s m args below meth c H locs cells slots Q (F0 m pc ls (.int x :: .int i :: .ref (za G q) :: rest)) := by
  refine va_bast hx hb hC.K hI.1 (hC.D σ) hI.2 q 1 (hv.at σ) rfl (zin_p hin) hdg (fun H1 locs1 hP _ hS => ?_)
  refine kk _ H1 locs1 rfl ⟨?_, hS⟩
  rw [← hv.2] at hP
  rw [zW_set hv.1] at hP
  exact hP
theorem z_alen (hx : p.tables.exec = Jvm.exec) (hb : c.code = cc) (hC : zC w G own args s m) (hI : zI w G s σ H locs) {q n : Nat} (hv : zV w G q n) {v : Int32} (hn : Int32.ofNat n = v) (hdg : decode cc pc = .ok (.arraylength, 1))
    (kk : W p l e R s m args below meth c H locs cells slots Q (F0 m (pc + 1) ls (.int v :: rest))) : W p l e R s m args below meth c H locs cells slots Q (F0 m pc ls (.ref (za G q) :: rest)) :=
  va_alen hx hb hC.K hI.1 q 0 (hv.at σ) rfl hn hdg kk
theorem z_max (hx : p.tables.exec = Jvm.exec) (hb : c.code = cc) (hC : zC w G own args s m) (hml : c.maxLocals = ls.size) {index : Nat} (hl : Cond.methodLink own index Lib.Math.max.name ∈ AW) (hf : 1 ≤ R.frames) (hlo : (rest.map fun v => v.category).sum + 13 ≤ R.locals) (hc : cells ≤ R.cells) (hs : slots ≤ R.slots) {x y : Int32} (hdg : decode cc pc = .ok (.invokestatic index, 3))
    (kk : W p l e R s m args below meth c H locs cells slots Q (F0 m (pc + 3) ls (.int (if x < y then y else x) :: rest))) : W p l e R s m args below meth c H locs cells slots Q (F0 m pc ls (.int y :: .int x :: rest)) :=
  va_mmax hx hb hml hC.1 (hC.ts hl) (hC.ts q_st_mmax) (hC.ts q_in__java_lang_Math_) (hC.ts q_co_mmax) hf hlo hc hs hdg kk
theorem z_min (hx : p.tables.exec = Jvm.exec) (hb : c.code = cc) (hC : zC w G own args s m) (hml : c.maxLocals = ls.size) {index : Nat} (hl : Cond.methodLink own index Lib.Math.min.name ∈ AW) (hf : 1 ≤ R.frames) (hlo : (rest.map fun v => v.category).sum + 13 ≤ R.locals) (hc : cells ≤ R.cells) (hs : slots ≤ R.slots) {x y : Int32} (hdg : decode cc pc = .ok (.invokestatic index, 3))
    (kk : W p l e R s m args below meth c H locs cells slots Q (F0 m (pc + 3) ls (.int (if y < x then y else x) :: rest))) : W p l e R s m args below meth c H locs cells slots Q (F0 m pc ls (.int y :: .int x :: rest)) :=
  va_mmin hx hb hml hC.1 (hC.ts hl) (hC.ts q_st_mmin) (hC.ts q_in__java_lang_Math_) (hC.ts q_co_mmin) hf hlo hc hs hdg kk
/-- System.arraycopy(a, 0, b, 0, n) over rows of ints -/
theorem z_copy (hx : p.tables.exec = Jvm.exec) (hb : c.code = cc) (hC : zC w G own args s m) (hml : c.maxLocals = ls.size) (hI : zI w G s σ H locs) {index : Nat} (hl : Cond.methodLink own index arraycopyName ∈ AW) {q0 q1 n : Nat} (h0 : zV w G q0 n) (h1 : zV w G q1 n) {k : Int32} (hk : ¬ k < 0) (hkn : k.toNatClampNeg ≤ n) (hf : 1 ≤ R.frames) (hlo : (rest.map fun v => v.category).sum + (nativeFrameWords "java/lang/System" "arraycopy" 5 + 11) ≤ R.locals) (hdg : decode cc pc = .ok (.invokestatic index, 3))
    (kk : ∀ (σ1 : SF) (H1 : Heap) (locs1 : List Loc), σ1 = zsr σ q1 (va_cpy (σ q0) (σ q1) 0 0 k.toNatClampNeg) → zI w G s σ1 H1 locs1 → W p l e R s m args below meth c H1 locs1 cells slots Q (F0 m (pc + 3) ls rest)) : W p l e R s m args below meth c H locs cells slots Q (F0 m pc ls (.int k :: .int 0 :: .ref (za G q1) :: .int 0 :: .ref (za G q0) :: rest)) := by
  have z0 : (0 : Int32).toNatClampNeg = 0 := rfl
  refine va_copyi hx hb hml hC.1 (hC.ts hl) (hC.ts q_na_acopy) (hC.ts q_st_acopy) (hC.ts q_in__java_lang_System_) hC.K hI.1 (hC.D σ) hI.2 q0 q1 0 0 (ty := .int) (h0.at σ) (h1.at σ) rfl rfl rfl (by decide) (by decide) hk (by rw [z0]; omega) (by rw [z0]; omega) (fun _ _ => rfl) hf hlo hdg (fun H1 locs1 hP _ hS => ?_)
  refine kk _ H1 locs1 rfl ⟨?_, hS⟩
  rw [← h1.2] at hP
  rw [zW_set h1.1] at hP
  exact hP
end ZR
section ZCALL
variable {p : Program} {l : Launch} {e : Env} {R : Room} {s : State} {m : MethodId} {args : Array Value} {below : List Frame} {meth : Method} {c : Code} {H : Heap} {locs : List Loc} {cells slots : Nat} {Q : State → Prop}
variable {cc : ByteArray} {pc : Nat} {ls : Array Slot} {rest st0 : List Value} {w : zWd} {G : zG} {own : String} {σ σ' : SF} {y : MethodName} {bytes : ByteArray} {maxL d k index : Nat} {rt : FieldType} {C host : String} {As : List Value} {q ci : Nat} {f : (Nat → Int32) → List Value} {T : u_T} {N : Nat}
theorem zB_of {ret : Option FieldType} (hC : zC w G own args s m) (hl : Cond.methodLink own index y ∈ AW) (hco : Cond.code y bytes maxL ret ∈ AW) (hini : Cond.initialized y.cls ∈ AW) (hd : y.cls ≠ "java/lang/invoke/MethodHandle" ∧ y.cls ≠ "java/lang/invoke/VarHandle" ∧ (parseMethodDescriptor y.desc).map (fun d => d.parameters.length) = some k) (hR : d + 1 ≤ R.frames ∧ 8 + (maxL + 11) + 100 * d ≤ R.locals) : CallB R s args own index y bytes maxL ret (.code y bytes maxL ret :: AW) (zR d) 0 0 k :=
  callB_of k hC.2.1 (zGoodA hco) rfl rfl rfl (hC.ts hini) (hC.ts hl) hd hR
theorem zN_of {ret : Option FieldType} (hC : zC w G own args s m) (hl : Cond.methodLinkNest own index y host ∈ NL) (hco : Cond.code y bytes maxL ret ∈ AW) (hini : Cond.initialized y.cls ∈ AW) (hd : y.cls ≠ "java/lang/invoke/MethodHandle" ∧ y.cls ≠ "java/lang/invoke/VarHandle" ∧ (parseMethodDescriptor y.desc).map (fun d => d.parameters.length) = some k) (hR : d + 1 ≤ R.frames ∧ 8 + (maxL + 11) + 100 * d ≤ R.locals) : va_CN R s args own index y host bytes maxL ret (.code y bytes maxL ret :: AW) (zR d) 0 0 k :=
  va_cnB k hC.2.1 (zGoodA hco) rfl rfl rfl (hC.2.2.2.2.1 _ hl) (hC.ts hini) hd hR
/-- behind a call: the heap is the new one -/
theorem zI_back (hC : zC w G own args s m) (hI : zI w G s σ H locs) {H1 : Heap} {locs1 : List Loc} (hP : va_P G.1 vwCl (zW w G σ') H1) (hS : va_S (zAA w G s.heap.size) s.heap H1 locs1) : zI w G s σ' H1 locs1 := ⟨hP, hS⟩
theorem z_runi {a : Array Value} {r : Int32} (hI : zI w G s σ H locs) (hr : va_Run p l e R s m args below meth c H locs cells slots 0 0 (F0 m pc ls st0) rest (va_Qi (fun r1 (_ : Unit) => r1 = r) (zPo w G σ') (zAA w G H.size) a) (zAA w G H.size))
    (kk : ∀ (H1 : Heap) (locs1 : List Loc), zI w G s σ' H1 locs1 → W p l e R s m args below meth c H1 locs1 cells slots Q (F0 m (pc + 3) ls (.int r :: rest))) : W p l e R s m args below meth c H locs cells slots Q (F0 m pc ls st0) := by
  refine va_calli hr hI.2 (fun q _ h => zA_mono hI.2.1 h) (fun q h => zA_mono hI.2.1 h) (fun r1 u t H1 locs1 ht hvm hw hB hz1 hk1 hS => ?_)
  subst hw
  exact kk H1 locs1 ⟨ht ▸ hB, hS⟩
theorem z_runl {a : Array Value} {r : Int64} (hI : zI w G s σ H locs) (hr : va_Run p l e R s m args below meth c H locs cells slots 0 0 (F0 m pc ls st0) rest (va_Ql (fun r1 (_ : Unit) => r1 = r) (zPo w G σ') (zAA w G H.size) a) (zAA w G H.size))
    (kk : ∀ (H1 : Heap) (locs1 : List Loc), zI w G s σ' H1 locs1 → W p l e R s m args below meth c H1 locs1 cells slots Q (F0 m (pc + 3) ls (.long r :: rest))) : W p l e R s m args below meth c H locs cells slots Q (F0 m pc ls st0) := by
  refine va_calll hr hI.2 (fun q _ h => zA_mono hI.2.1 h) (fun q h => zA_mono hI.2.1 h) (fun r1 u t H1 locs1 ht hvm hw hB hz1 hk1 hS => ?_)
  subst hw
  exact kk H1 locs1 ⟨ht ▸ hB, hS⟩
theorem z_runv {a : Array Value} (hI : zI w G s σ H locs) (hr : va_Run p l e R s m args below meth c H locs cells slots 0 0 (F0 m pc ls st0) rest (va_Qv (fun (_ : Unit) => True) (zPo w G σ') (zAA w G H.size) a) (zAA w G H.size))
    (kk : ∀ (H1 : Heap) (locs1 : List Loc), zI w G s σ' H1 locs1 → W p l e R s m args below meth c H1 locs1 cells slots Q (F0 m (pc + 3) ls rest)) : W p l e R s m args below meth c H locs cells slots Q (F0 m pc ls st0) := by
  refine va_callv hr hI.2 (fun q _ h => zA_mono hI.2.1 h) (fun q h => zA_mono hI.2.1 h) (fun u t H1 locs1 ht hvm hw hB hz1 hk1 hS => ?_)
  exact kk H1 locs1 ⟨ht ▸ hB, hS⟩
theorem z_pv (hC : zC w G own args s m) (hI : zI w G s σ H locs) (ho : zO w G q ci f) (hc : vwCl[ci]? = some (C, T, N)) : PreV s H C (za G q) (zPr w G (.ref (za G q) :: As) σ H.size) As :=
  ⟨zPr_blind, va_recv hC.K hI.1 hc (ho.at σ), zPr_call hC.2.2 hI⟩
theorem z_ps (hC : zC w G own args s m) (hI : zI w G s σ H locs) : PreS s H (zPr w G As σ H.size) As := ⟨zPr_blind, zPr_call hC.2.2 hI⟩
/-- a call of an instance method: an int, a long, nothing comes back -/
theorem z_cVi {r : Int32} (hx : p.tables.exec = Jvm.exec) (hb : c.code = cc) (hC : zC w G own args s m) (hml : c.maxLocals = ls.size) (hI : zI w G s σ H locs) (hM : zMi l w G y bytes maxL rt d (.ref (za G q) :: As) σ r σ') (hy : zYv y bytes maxL (some rt) C k) (hl : Cond.methodLink own index y ∈ AW) (ho : zO w G q ci f) (hc : vwCl[ci]? = some (C, T, N)) (hR : d + 1 ≤ R.frames ∧ 8 + (maxL + 11) + 100 * d ≤ R.locals) (hn : As.length = k) (hst : st0 = As.reverse ++ .ref (za G q) :: rest) (hrest : (rest.map fun v => v.category).sum ≤ 8) (hf : cells ≤ R.cells ∧ slots ≤ R.slots) (hdg : decode cc pc = .ok (.invokevirtual index, 3))
    (kk : ∀ (H1 : Heap) (locs1 : List Loc), zI w G s σ' H1 locs1 → W p l e R s m args below meth c H1 locs1 cells slots Q (F0 m (pc + 3) ls (.int r :: rest))) : W p l e R s m args below meth c H locs cells slots Q (F0 m pc ls st0) :=
  z_runi hI (va_runV (As := As) (rest := rest) (nL := ls.size) ⟨hx, hb, hml, hC.1, hC.2.1⟩ (hM H.size) ⟨zB_of hC hl hy.2.2.1 hy.2.2.2.1 hy.2.2.2.2 hR, hC.ts hy.1, hC.ts hy.2.1⟩ (z_pv hC hI ho hc) rfl hn rfl hst (lv_room hrest) hdg hf) kk
theorem z_cVl {r : Int64} (hx : p.tables.exec = Jvm.exec) (hb : c.code = cc) (hC : zC w G own args s m) (hml : c.maxLocals = ls.size) (hI : zI w G s σ H locs) (hM : zMl l w G y bytes maxL d (.ref (za G q) :: As) σ r σ') (hy : zYv y bytes maxL (some .long) C k) (hl : Cond.methodLink own index y ∈ AW) (ho : zO w G q ci f) (hc : vwCl[ci]? = some (C, T, N)) (hR : d + 1 ≤ R.frames ∧ 8 + (maxL + 11) + 100 * d ≤ R.locals) (hn : As.length = k) (hst : st0 = As.reverse ++ .ref (za G q) :: rest) (hrest : (rest.map fun v => v.category).sum ≤ 8) (hf : cells ≤ R.cells ∧ slots ≤ R.slots) (hdg : decode cc pc = .ok (.invokevirtual index, 3))
    (kk : ∀ (H1 : Heap) (locs1 : List Loc), zI w G s σ' H1 locs1 → W p l e R s m args below meth c H1 locs1 cells slots Q (F0 m (pc + 3) ls (.long r :: rest))) : W p l e R s m args below meth c H locs cells slots Q (F0 m pc ls st0) :=
  z_runl hI (va_runV (As := As) (rest := rest) (nL := ls.size) ⟨hx, hb, hml, hC.1, hC.2.1⟩ (hM H.size) ⟨zB_of hC hl hy.2.2.1 hy.2.2.2.1 hy.2.2.2.2 hR, hC.ts hy.1, hC.ts hy.2.1⟩ (z_pv hC hI ho hc) rfl hn rfl hst (lv_room hrest) hdg hf) kk
theorem z_cVv (hx : p.tables.exec = Jvm.exec) (hb : c.code = cc) (hC : zC w G own args s m) (hml : c.maxLocals = ls.size) (hI : zI w G s σ H locs) (hM : zMv l w G y bytes maxL d (.ref (za G q) :: As) σ σ') (hy : zYv y bytes maxL none C k) (hl : Cond.methodLink own index y ∈ AW) (ho : zO w G q ci f) (hc : vwCl[ci]? = some (C, T, N)) (hR : d + 1 ≤ R.frames ∧ 8 + (maxL + 11) + 100 * d ≤ R.locals) (hn : As.length = k) (hst : st0 = As.reverse ++ .ref (za G q) :: rest) (hrest : (rest.map fun v => v.category).sum ≤ 8) (hf : cells ≤ R.cells ∧ slots ≤ R.slots) (hdg : decode cc pc = .ok (.invokevirtual index, 3))
    (kk : ∀ (H1 : Heap) (locs1 : List Loc), zI w G s σ' H1 locs1 → W p l e R s m args below meth c H1 locs1 cells slots Q (F0 m (pc + 3) ls rest)) : W p l e R s m args below meth c H locs cells slots Q (F0 m pc ls st0) :=
  z_runv hI (va_runV (As := As) (rest := rest) (nL := ls.size) ⟨hx, hb, hml, hC.1, hC.2.1⟩ (hM H.size) ⟨zB_of hC hl hy.2.2.1 hy.2.2.2.1 hy.2.2.2.2 hR, hC.ts hy.1, hC.ts hy.2.1⟩ (z_pv hC hI ho hc) rfl hn rfl hst (lv_room hrest) hdg hf) kk
/-- a call of a static method -/
theorem z_cSi {r : Int32} (hx : p.tables.exec = Jvm.exec) (hb : c.code = cc) (hC : zC w G own args s m) (hml : c.maxLocals = ls.size) (hI : zI w G s σ H locs) (hM : zMi l w G y bytes maxL rt d As σ r σ') (hy : zYs y bytes maxL (some rt) k) (hl : Cond.methodLink own index y ∈ AW) (hR : d + 1 ≤ R.frames ∧ 8 + (maxL + 11) + 100 * d ≤ R.locals) (hn : As.length = k) (hst : st0 = As.reverse ++ rest) (hrest : (rest.map fun v => v.category).sum ≤ 8) (hf : cells ≤ R.cells ∧ slots ≤ R.slots) (hdg : decode cc pc = .ok (.invokestatic index, 3))
    (kk : ∀ (H1 : Heap) (locs1 : List Loc), zI w G s σ' H1 locs1 → W p l e R s m args below meth c H1 locs1 cells slots Q (F0 m (pc + 3) ls (.int r :: rest))) : W p l e R s m args below meth c H locs cells slots Q (F0 m pc ls st0) :=
  z_runi hI (va_runS (As := As) (rest := rest) (nL := ls.size) ⟨hx, hb, hml, hC.1, hC.2.1⟩ (hM H.size) ⟨zB_of hC hl hy.2.1 hy.2.2.1 hy.2.2.2 hR, hC.ts hy.1⟩ (z_ps hC hI) rfl hn rfl hst (lv_room hrest) hdg hf) kk
theorem z_cSl {r : Int64} (hx : p.tables.exec = Jvm.exec) (hb : c.code = cc) (hC : zC w G own args s m) (hml : c.maxLocals = ls.size) (hI : zI w G s σ H locs) (hM : zMl l w G y bytes maxL d As σ r σ') (hy : zYs y bytes maxL (some .long) k) (hl : Cond.methodLink own index y ∈ AW) (hR : d + 1 ≤ R.frames ∧ 8 + (maxL + 11) + 100 * d ≤ R.locals) (hn : As.length = k) (hst : st0 = As.reverse ++ rest) (hrest : (rest.map fun v => v.category).sum ≤ 8) (hf : cells ≤ R.cells ∧ slots ≤ R.slots) (hdg : decode cc pc = .ok (.invokestatic index, 3))
    (kk : ∀ (H1 : Heap) (locs1 : List Loc), zI w G s σ' H1 locs1 → W p l e R s m args below meth c H1 locs1 cells slots Q (F0 m (pc + 3) ls (.long r :: rest))) : W p l e R s m args below meth c H locs cells slots Q (F0 m pc ls st0) :=
  z_runl hI (va_runS (As := As) (rest := rest) (nL := ls.size) ⟨hx, hb, hml, hC.1, hC.2.1⟩ (hM H.size) ⟨zB_of hC hl hy.2.1 hy.2.2.1 hy.2.2.2 hR, hC.ts hy.1⟩ (z_ps hC hI) rfl hn rfl hst (lv_room hrest) hdg hf) kk
theorem z_cSv (hx : p.tables.exec = Jvm.exec) (hb : c.code = cc) (hC : zC w G own args s m) (hml : c.maxLocals = ls.size) (hI : zI w G s σ H locs) (hM : zMv l w G y bytes maxL d As σ σ') (hy : zYs y bytes maxL none k) (hl : Cond.methodLink own index y ∈ AW) (hR : d + 1 ≤ R.frames ∧ 8 + (maxL + 11) + 100 * d ≤ R.locals) (hn : As.length = k) (hst : st0 = As.reverse ++ rest) (hrest : (rest.map fun v => v.category).sum ≤ 8) (hf : cells ≤ R.cells ∧ slots ≤ R.slots) (hdg : decode cc pc = .ok (.invokestatic index, 3))
    (kk : ∀ (H1 : Heap) (locs1 : List Loc), zI w G s σ' H1 locs1 → W p l e R s m args below meth c H1 locs1 cells slots Q (F0 m (pc + 3) ls rest)) : W p l e R s m args below meth c H locs cells slots Q (F0 m pc ls st0) :=
  z_runv hI (va_runS (As := As) (rest := rest) (nL := ls.size) ⟨hx, hb, hml, hC.1, hC.2.1⟩ (hM H.size) ⟨zB_of hC hl hy.2.1 hy.2.2.1 hy.2.2.2 hR, hC.ts hy.1⟩ (z_ps hC hI) rfl hn rfl hst (lv_room hrest) hdg hf) kk
/-- a static method of the nest's host -/
theorem z_cNi {r : Int32} (hx : p.tables.exec = Jvm.exec) (hb : c.code = cc) (hC : zC w G own args s m) (hml : c.maxLocals = ls.size) (hI : zI w G s σ H locs) (hM : zMi l w G y bytes maxL rt d As σ r σ') (hy : zYs y bytes maxL (some rt) k) (hl : Cond.methodLinkNest own index y host ∈ NL) (hR : d + 1 ≤ R.frames ∧ 8 + (maxL + 11) + 100 * d ≤ R.locals) (hn : As.length = k) (hst : st0 = As.reverse ++ rest) (hrest : (rest.map fun v => v.category).sum ≤ 8) (hf : cells ≤ R.cells ∧ slots ≤ R.slots) (hdg : decode cc pc = .ok (.invokestatic index, 3))
    (kk : ∀ (H1 : Heap) (locs1 : List Loc), zI w G s σ' H1 locs1 → W p l e R s m args below meth c H1 locs1 cells slots Q (F0 m (pc + 3) ls (.int r :: rest))) : W p l e R s m args below meth c H locs cells slots Q (F0 m pc ls st0) :=
  z_runi hI (va_runSN (As := As) (rest := rest) (nL := ls.size) ⟨hx, hb, hml, hC.1, hC.2.1⟩ (hM H.size) ⟨zN_of hC hl hy.2.1 hy.2.2.1 hy.2.2.2 hR, hC.ts hy.1, trivial⟩ (z_ps hC hI) rfl hn rfl hst (lv_room hrest) hdg hf) kk
end ZCALL
section ZRET
variable {p : Program} {l : Launch} {e : Env} {R : Room} {s : State} {m : MethodId} {args : Array Value} {below : List Frame} {meth : Method} {c : Code} {H : Heap} {locs : List Loc}
variable {cc : ByteArray} {pc : Nat} {ls : Array Slot} {w : zWd} {G : zG} {own : String} {σ σ' : SF}
theorem z_iret {rt : FieldType} {r v : Int32} (hx : p.tables.exec = Jvm.exec) (hb : c.code = cc) (hr : meth.sig.returnType = some rt) (hlk : meth.locks = false) (hI : zI w G s σ H locs) (hn : narrow rt (.int v) = .int v) (hv : v = r ∧ σ = σ') (hdg : decode cc pc = .ok (.ireturn, 1)) :
    W p l e R s m args below meth c H locs 0 0 (MQ below (va_Qi (fun r1 (_ : Unit) => r1 = r) (zPo w G σ') (zAA w G s.heap.size)) args s 0 0 (zAA w G s.heap.size)) (F0 m pc ls [.int v]) := by
  obtain ⟨rfl, rfl⟩ := hv
  exact W.zret hx hb hr hn (fun t ht hW => ⟨⟨v, (), rfl, rfl, by show va_P _ _ _ _; rw [ht]; exact hI.1⟩, hI.2.F ht⟩) hI.2.2.2 hdg hlk
theorem z_lret {r v : Int64} (hx : p.tables.exec = Jvm.exec) (hb : c.code = cc) (hr : meth.sig.returnType = some .long) (hlk : meth.locks = false) (hI : zI w G s σ H locs) (hv : v = r ∧ σ = σ') (hdg : decode cc pc = .ok (.lreturn, 1)) :
    W p l e R s m args below meth c H locs 0 0 (MQ below (va_Ql (fun r1 (_ : Unit) => r1 = r) (zPo w G σ') (zAA w G s.heap.size)) args s 0 0 (zAA w G s.heap.size)) (F0 m pc ls [.long v]) := by
  obtain ⟨rfl, rfl⟩ := hv
  exact W.lret hx hb hr (fun t ht hW => ⟨⟨v, (), rfl, rfl, by show va_P _ _ _ _; rw [ht]; exact hI.1⟩, hI.2.F ht⟩) hI.2.2.2 hdg hlk
theorem z_vret (hx : p.tables.exec = Jvm.exec) (hb : c.code = cc) (hr : meth.sig.returnType = none) (hlk : meth.locks = false) (hI : zI w G s σ H locs) (hv : σ = σ') (hdg : decode cc pc = .ok (.return_, 1)) :
    W p l e R s m args below meth c H locs 0 0 (MQ below (va_Qv (fun (_ : Unit) => True) (zPo w G σ') (zAA w G s.heap.size)) args s 0 0 (zAA w G s.heap.size)) (F0 m pc ls []) := by
  subst hv
  exact W.vret hx hb hr (fun t ht hW => ⟨⟨(), rfl, trivial, by show va_P _ _ _ _; rw [ht]; exact hI.1⟩, hI.2.F ht⟩) hI.2.2.2 hdg hlk
end ZRET
theorem zb_s {α β : Type} {x : α} {f : α → Option β} {z : β} (h : zb (some x) f = some z) : f x = some z := h
theorem zb2_s {A B β : Type} {x : A} {y : B} {f : A → B → Option β} {z : β} (h : zb2 (some (x, y)) f = some z) : f x y = some z := h
theorem zb3_s {A B C β : Type} {x : A} {y : B} {t : C} {f : A → B → C → Option β} {z : β} (h : zb3 (some (x, y, t)) f = some z) : f x y t = some z := h
theorem zb4_s {A B C D β : Type} {x : A} {y : B} {t : C} {u : D} {f : A → B → C → D → Option β} {z : β} (h : zb4 (some (x, y, t, u)) f = some z) : f x y t u = some z := h
theorem zb5_s {A B C D E β : Type} {x : A} {y : B} {t : C} {u : D} {v : E} {f : A → B → C → D → E → Option β} {z : β} (h : zb5 (some (x, y, t, u, v)) f = some z) : f x y t u v = some z := h
theorem zb6_s {A B C D E F β : Type} {x : A} {y : B} {t : C} {u : D} {v : E} {w : F} {f : A → B → C → D → E → F → Option β} {z : β} (h : zb6 (some (x, y, t, u, v, w)) f = some z) : f x y t u v w = some z := h
theorem zko {x k : Int32} {a : Int} (h : ¬ x = k) (ha : k.toInt = a) : (a = x.toInt) = False := eq_false (fun e => h (Int32.toInt_inj.mp (by rw [ha]; exact e.symm)))
section ZT
variable {p : Program} {l : Launch} {e : Env} {R : Room} {s : State} {m : MethodId} {args : Array Value} {below : List Frame} {meth : Method} {c : Code} {H : Heap} {locs : List Loc} {cells slots : Nat} {Q : State → Prop}
variable {cc : ByteArray} {pc : Nat} {ls : Array Slot} {rest : List Value}
theorem zTable (hx : p.tables.exec = Jvm.exec) (hb : c.code = cc) {dflt lo hi : Int} {offs : Array Int} {len : Nat} {x : Int32} {tgt : Nat} (hdg : decode cc pc = .ok (.tableswitch dflt lo hi offs, len)) (hd : ¬ x.toInt < lo → ¬ hi < x.toInt → offs[(x.toInt - lo).toNat]? = some dflt) (ht : (pc : Int) + dflt = (tgt : Int))
    (k : W p l e R s m args below meth c H locs cells slots Q (F0 m tgt ls rest)) : W p l e R s m args below meth c H locs cells slots Q (F0 m pc ls (.int x :: rest)) := by
  by_cases h1 : x.toInt < lo
  · exact lv_tableOut hx hb hdg (Or.inl h1) ht k
  · by_cases h2 : hi < x.toInt
    · exact lv_tableOut hx hb hdg (Or.inr h2) ht k
    · exact lv_tableIn hx hb hdg h1 h2 (hd h1 h2) ht k
end ZT
section ZOF
variable {l : Launch} {w : zWd} {G : zG} {y : MethodName} {cc : ByteArray} {nL d : Nat} {av : List Value} {σ σ' : SF}
theorem zMi_of {rt : FieldType} {r : Int32} (hy : plainName y.cls = true) (hn : (lg_sl av).length ≤ nL)
    (body : ∀ (p : Program) (e : Env) (s : State) (m : MethodId) (args : Array Value) (below : List Frame) (meth : Method) (c : Code) (ls : Array Slot) (Q : State → Prop), p.tables.exec = Jvm.exec → c.code = cc → meth.sig.returnType = some rt → meth.locks = false → c.maxLocals = nL → zC w G y.cls args s m → zI w G s σ s.heap [] → lv_has ls nL (lv_args 0 av) →
      (∀ {H : Heap} {locs : List Loc} {ls : Array Slot} {pc : Nat} {v : Int32} {σ1 : SF}, v = r ∧ σ1 = σ' → zI w G s σ1 H locs → narrow rt (.int v) = .int v → decode cc pc = .ok (.ireturn, 1) → W p l e (zR d) s m args below meth c H locs 0 0 Q (F0 m pc ls [.int v])) →
      W p l e (zR d) s m args below meth c s.heap [] 0 0 Q (F0 m 0 ls [])) : zMi l w G y cc nL rt d av σ r σ' := by
  intro sz
  refine Met.ofW (cc := cc) (maxL := nL) (ret := some rt) hy rfl ?_
  intro p e s m args below meth c s₁ B hml hv
  obtain ⟨rfl, hsz, hK, hP⟩ := hv
  subst hsz
  rw [lg_entry_eq]
  have hts := atoms_spec (ws := .code y cc nL (some rt) :: AW) B.pre
  exact body p e s m _ below meth c _ _ B.exec B.bytes B.returns B.notSynchronized hml ⟨findClass_of_methodNamed B.named, fun x hx => hts x (List.mem_cons_of_mem _ hx), hK⟩ ⟨hP, va_S.rf⟩ (lv_entry av hn) (fun hv hI hn hd => z_iret B.exec B.bytes B.returns B.notSynchronized hI hn hv hd)
theorem zMl_of {r : Int64} (hy : plainName y.cls = true) (hn : (lg_sl av).length ≤ nL)
    (body : ∀ (p : Program) (e : Env) (s : State) (m : MethodId) (args : Array Value) (below : List Frame) (meth : Method) (c : Code) (ls : Array Slot) (Q : State → Prop), p.tables.exec = Jvm.exec → c.code = cc → meth.sig.returnType = some .long → meth.locks = false → c.maxLocals = nL → zC w G y.cls args s m → zI w G s σ s.heap [] → lv_has ls nL (lv_args 0 av) →
      (∀ {H : Heap} {locs : List Loc} {ls : Array Slot} {pc : Nat} {v : Int64} {σ1 : SF}, v = r ∧ σ1 = σ' → zI w G s σ1 H locs → decode cc pc = .ok (.lreturn, 1) → W p l e (zR d) s m args below meth c H locs 0 0 Q (F0 m pc ls [.long v])) →
      W p l e (zR d) s m args below meth c s.heap [] 0 0 Q (F0 m 0 ls [])) : zMl l w G y cc nL d av σ r σ' := by
  intro sz
  refine Met.ofW (cc := cc) (maxL := nL) (ret := some .long) hy rfl ?_
  intro p e s m args below meth c s₁ B hml hv
  obtain ⟨rfl, hsz, hK, hP⟩ := hv
  subst hsz
  rw [lg_entry_eq]
  have hts := atoms_spec (ws := .code y cc nL (some .long) :: AW) B.pre
  exact body p e s m _ below meth c _ _ B.exec B.bytes B.returns B.notSynchronized hml ⟨findClass_of_methodNamed B.named, fun x hx => hts x (List.mem_cons_of_mem _ hx), hK⟩ ⟨hP, va_S.rf⟩ (lv_entry av hn) (fun hv hI hd => z_lret B.exec B.bytes B.returns B.notSynchronized hI hv hd)
theorem zMv_of (hy : plainName y.cls = true) (hn : (lg_sl av).length ≤ nL)
    (body : ∀ (p : Program) (e : Env) (s : State) (m : MethodId) (args : Array Value) (below : List Frame) (meth : Method) (c : Code) (ls : Array Slot) (Q : State → Prop), p.tables.exec = Jvm.exec → c.code = cc → meth.sig.returnType = none → meth.locks = false → c.maxLocals = nL → zC w G y.cls args s m → zI w G s σ s.heap [] → lv_has ls nL (lv_args 0 av) →
      (∀ {H : Heap} {locs : List Loc} {ls : Array Slot} {pc : Nat} {σ1 : SF}, σ1 = σ' → zI w G s σ1 H locs → decode cc pc = .ok (.return_, 1) → W p l e (zR d) s m args below meth c H locs 0 0 Q (F0 m pc ls [])) →
      W p l e (zR d) s m args below meth c s.heap [] 0 0 Q (F0 m 0 ls [])) : zMv l w G y cc nL d av σ σ' := by
  intro sz
  refine Met.ofW (cc := cc) (maxL := nL) (ret := none) hy rfl ?_
  intro p e s m args below meth c s₁ B hml hv
  obtain ⟨rfl, hsz, hK, hP⟩ := hv
  subst hsz
  rw [lg_entry_eq]
  have hts := atoms_spec (ws := .code y cc nL none :: AW) B.pre
  exact body p e s m _ below meth c _ _ B.exec B.bytes B.returns B.notSynchronized hml ⟨findClass_of_methodNamed B.named, fun x hx => hts x (List.mem_cons_of_mem _ hx), hK⟩ ⟨hP, va_S.rf⟩ (lv_entry av hn) (fun hv hI hd => z_vret B.exec B.bytes B.returns B.notSynchronized hI hv hd)
end ZOF
end
section
def BF (G : zG) : zB := fun i r => match i with
  | 0 => .inr (6, [.ref (za G 1), .ref (za G 3), .ref (za G 7), .ref (za G 13), .ref (za G 16), .ref (za G 19), .ref (za G 23), .ref (za G 27), .ref (za G 31), .ref (za G 35), .int (r 10), .int (r 11), .int (r 12)])
  | 1 => .inr (2, [.ref (za G 2), .int (r 1), .int (r 2), .int (r 3)])
  | 2 => .inl (G.2.2.1, 34, .inl r)
  | 3 => .inr (1, [.int (r 0), .ref (za G 4), .ref (za G 5), .ref (za G 6)])
  | 4 => .inl (G.2.2.1, 8, .inl r)
  | 5 => .inl (G.2.2.1, 8, .inl r)
  | 6 => .inl (G.2.2.1, 8, .inl r)
  | 7 => .inr (0, [.ref (za G 3), .ref (za G 8), .ref (za G 9), .ref (za G 10), .ref (za G 11), .ref (za G 12), .int (r 6), .int (r 7), .int (r 8), .int (r 9), .int (r 10), .int (r 11), .int (r 12)])
  | 8 => .inl (G.2.2.1, 16, .inl r)
  | 9 => .inl (G.2.2.1, 16, .inl r)
  | 10 => .inl (G.2.2.1, 8, .inl r)
  | 11 => .inl (G.2.2.1, 8, .inl r)
  | 12 => .inl (G.2.2.1, 8, .inl r)
  | 13 => .inr (4, [.ref (za G 3), .ref (za G 7), .ref (za G 14), .int (r 3), .int (r 4), .int (r 5), .int (r 6), .ref (za G 15), .int (r 8)])
  | 14 => .inl (G.2.2.1, 72, .inl r)
  | 15 => .inl (G.2.2.1, 16, .inl r)
  | 16 => .inr (5, [.ref (za G 17), .int (r 1), .ref (za G 18)])
  | 17 => .inl (G.2.2.1, 30, .inl r)
  | 18 => .inl (G.2.2.1, 8, .inl r)
  | 19 => .inr (3, [.int (r 0), .ref (za G 20), .ref (za G 21), .ref (za G 22)])
  | 20 => .inl (G.2.2.1, 6, .inl r)
  | 21 => .inl (G.2.2.1, 6, .inl r)
  | 22 => .inl (G.2.2.1, 6, .inl r)
  | 23 => .inr (1, [.int (r 0), .ref (za G 24), .ref (za G 25), .ref (za G 26)])
  | 24 => .inl (G.2.2.1, 8, .inl r)
  | 25 => .inl (G.2.2.1, 8, .inl r)
  | 26 => .inl (G.2.2.1, 8, .inl r)
  | 27 => .inr (3, [.int (r 0), .ref (za G 28), .ref (za G 29), .ref (za G 30)])
  | 28 => .inl (G.2.2.1, 6, .inl r)
  | 29 => .inl (G.2.2.1, 6, .inl r)
  | 30 => .inl (G.2.2.1, 6, .inl r)
  | 31 => .inr (1, [.int (r 0), .ref (za G 32), .ref (za G 33), .ref (za G 34)])
  | 32 => .inl (G.2.2.1, 8, .inl r)
  | 33 => .inl (G.2.2.1, 8, .inl r)
  | 34 => .inl (G.2.2.1, 8, .inl r)
  | 35 => .inr (0, [.ref (za G 31), .ref (za G 36), .ref (za G 37), .ref (za G 38), .ref (za G 39), .ref (za G 40), .int (r 6), .int (r 7), .int (r 8), .int (r 9), .int (r 10), .int (r 11), .int (r 12)])
  | 36 => .inl (G.2.2.1, 16, .inl r)
  | 37 => .inl (G.2.2.1, 16, .inl r)
  | 38 => .inl (G.2.2.1, 8, .inl r)
  | 39 => .inl (G.2.2.1, 8, .inl r)
  | _ => .inl (G.2.2.1, 8, .inl r)
def BM (G : zG) : zB := fun i r => match i with
  | 0 => .inr (7, [.int (r 0), .int (r 1), .ref (za G 1), .ref (za G 2), .int (r 4), .ref (za G 3), .int (r 6), .int (r 7), .ref (za G 4), .ref (za G 5), .ref (za G 6), .int (r 11), .ref (za G 7), .int (r 13), .int (r 14), .int (r 15), .ref (za G 8), .ref (za G 9), .int (r 18), .int (r 19), .ref (za G 10), .ref (za G 11), .int (r 22), .int (r 23), .ref (za G 12), .ref (za G 13), .ref (za G 14), .ref (za G 15), .int (r 28), .int (r 29), .int (r 30), .int (r 31), .int (r 32), .ref (za G 16), .ref (za G 17), .ref (za G 18), .int (r 36), .int (r 37), .int (r 38), .int (r 39), .ref (za G 19), .int (r 41), .ref (za G 20), .int (r 43), .ref (za G 21), .long (zLg (r 45) (r 145)), .int (r 46), .int (r 47), .int (r 48), .ref (za G 22), .ref (za G 23), .ref (za G 24), .ref (za G 25), .ref (za G 26), .long (zLg (r 54) (r 154))])
  | 1 => .inl (G.2.2.1, 8, .inl r)
  | 2 => .inl (G.2.2.1, 16, .inl r)
  | 3 => .inl (G.2.2.1, 30, .inl r)
  | 4 => .inl (G.2.2.1, 6, .inl r)
  | 5 => .inl (G.2.2.1, 6, .inl r)
  | 6 => .inl (G.2.2.1, 6, .inl r)
  | 7 => .inl (G.2.2.2.1, 34, .inl r)
  | 8 => .inl (G.2.2.1, 8, .inl r)
  | 9 => .inl (G.2.2.1, 16, .inl r)
  | 10 => .inl (G.2.2.1, 8, .inl r)
  | 11 => .inl (G.2.2.1, 16, .inl r)
  | 12 => .inl (G.2.2.1, 8, .inl r)
  | 13 => .inl (G.2.2.1, 8, .inl r)
  | 14 => .inl (G.2.2.1, 8, .inl r)
  | 15 => .inl (G.2.2.1, 8, .inl r)
  | 16 => .inl (G.2.2.1, 8, .inl r)
  | 17 => .inl (G.2.2.1, 8, .inl r)
  | 18 => .inl (G.2.2.1, 8, .inl r)
  | 19 => .inl (G.2.2.1, 128, .inl r)
  | 20 => .inl (G.2.2.1, 256, .inl r)
  | 21 => .inl (G.2.2.1, 64, .inl r)
  | 22 => .inl (G.2.2.1, 8, .inl r)
  | 23 => .inl (G.2.2.1, 16, .inl r)
  | 24 => .inl (G.2.2.1, 6, .inl r)
  | 25 => .inl (G.2.2.1, 6, .inl r)
  | _ => .inl (G.2.2.1, 6, .inl r)
abbrev WF : zWd := (41, BF)
abbrev WM : zWd := (27, BM)
def isF (j : Nat) : Prop := j = 3 ∨ j = 31
def isJ (b : Nat) : Prop := b = 3 ∨ b = 23 ∨ b = 31
def isS (b : Nat) : Prop := b = 19 ∨ b = 27
theorem isF.J {j : Nat} (h : isF j) : isJ j := h.elim Or.inl (fun z => Or.inr (Or.inr z))
theorem isF3 : isF 3 := Or.inl rfl
theorem isF31 : isF 31 := Or.inr rfl
theorem isJ3 : isJ 3 := Or.inl rfl
theorem isJ23 : isJ 23 := Or.inr (Or.inl rfl)
theorem isJ31 : isJ 31 := Or.inr (Or.inr rfl)
theorem isS19 : isS 19 := Or.inl rfl
theorem isS27 : isS 27 := Or.inr rfl
theorem oX0 (G : zG) {j : Nat} (hj : isF j) : zO WF G (j + 4) 0 (fun r => [.ref (za G j), .ref (za G (j + 5)), .ref (za G (j + 6)), .ref (za G (j + 7)), .ref (za G (j + 8)), .ref (za G (j + 9)), .int (r 6), .int (r 7), .int (r 8), .int (r 9), .int (r 10), .int (r 11), .int (r 12)]) := by rcases hj with rfl | rfl <;> exact ⟨by decide, fun _ => rfl⟩
theorem vX0_1 (G : zG) {j : Nat} (hj : isF j) : zV WF G (j + 5) 16 := by rcases hj with rfl | rfl <;> exact ⟨by decide, fun _ => rfl⟩
theorem vX0_2 (G : zG) {j : Nat} (hj : isF j) : zV WF G (j + 6) 16 := by rcases hj with rfl | rfl <;> exact ⟨by decide, fun _ => rfl⟩
theorem vX0_3 (G : zG) {j : Nat} (hj : isF j) : zV WF G (j + 7) 8 := by rcases hj with rfl | rfl <;> exact ⟨by decide, fun _ => rfl⟩
theorem vX0_4 (G : zG) {j : Nat} (hj : isF j) : zV WF G (j + 8) 8 := by rcases hj with rfl | rfl <;> exact ⟨by decide, fun _ => rfl⟩
theorem vX0_5 (G : zG) {j : Nat} (hj : isF j) : zV WF G (j + 9) 8 := by rcases hj with rfl | rfl <;> exact ⟨by decide, fun _ => rfl⟩
theorem oX1 (G : zG) {b : Nat} (hb1 : isJ b) : zO WF G b 1 (fun r => [.int (r 0), .ref (za G (b + 1)), .ref (za G (b + 2)), .ref (za G (b + 3))]) := by rcases hb1 with rfl | rfl | rfl <;> exact ⟨by decide, fun _ => rfl⟩
theorem vX1_1 (G : zG) {b : Nat} (hb1 : isJ b) : zV WF G (b + 1) 8 := by rcases hb1 with rfl | rfl | rfl <;> exact ⟨by decide, fun _ => rfl⟩
theorem vX1_2 (G : zG) {b : Nat} (hb1 : isJ b) : zV WF G (b + 2) 8 := by rcases hb1 with rfl | rfl | rfl <;> exact ⟨by decide, fun _ => rfl⟩
theorem vX1_3 (G : zG) {b : Nat} (hb1 : isJ b) : zV WF G (b + 3) 8 := by rcases hb1 with rfl | rfl | rfl <;> exact ⟨by decide, fun _ => rfl⟩
theorem oX2 (G : zG) : zO WF G 1 2 (fun r => [.ref (za G 2), .int (r 1), .int (r 2), .int (r 3)]) := ⟨by decide, fun _ => rfl⟩
theorem vX2_0 (G : zG) : zV WF G 2 34 := ⟨by decide, fun _ => rfl⟩
theorem oX3 (G : zG) {b : Nat} (hb1 : isS b) : zO WF G b 3 (fun r => [.int (r 0), .ref (za G (b + 1)), .ref (za G (b + 2)), .ref (za G (b + 3))]) := by rcases hb1 with rfl | rfl <;> exact ⟨by decide, fun _ => rfl⟩
theorem vX3_1 (G : zG) {b : Nat} (hb1 : isS b) : zV WF G (b + 1) 6 := by rcases hb1 with rfl | rfl <;> exact ⟨by decide, fun _ => rfl⟩
theorem vX3_2 (G : zG) {b : Nat} (hb1 : isS b) : zV WF G (b + 2) 6 := by rcases hb1 with rfl | rfl <;> exact ⟨by decide, fun _ => rfl⟩
theorem vX3_3 (G : zG) {b : Nat} (hb1 : isS b) : zV WF G (b + 3) 6 := by rcases hb1 with rfl | rfl <;> exact ⟨by decide, fun _ => rfl⟩
theorem oX4 (G : zG) : zO WF G 13 4 (fun r => [.ref (za G 3), .ref (za G 7), .ref (za G 14), .int (r 3), .int (r 4), .int (r 5), .int (r 6), .ref (za G 15), .int (r 8)]) := ⟨by decide, fun _ => rfl⟩
theorem vX4_2 (G : zG) : zV WF G 14 72 := ⟨by decide, fun _ => rfl⟩
theorem vX4_7 (G : zG) : zV WF G 15 16 := ⟨by decide, fun _ => rfl⟩
theorem oX5 (G : zG) : zO WF G 16 5 (fun r => [.ref (za G 17), .int (r 1), .ref (za G 18)]) := ⟨by decide, fun _ => rfl⟩
theorem vX5_0 (G : zG) : zV WF G 17 30 := ⟨by decide, fun _ => rfl⟩
theorem vX5_2 (G : zG) : zV WF G 18 8 := ⟨by decide, fun _ => rfl⟩
theorem oX6 (G : zG) : zO WF G 0 6 (fun r => [.ref (za G 1), .ref (za G 3), .ref (za G 7), .ref (za G 13), .ref (za G 16), .ref (za G 19), .ref (za G 23), .ref (za G 27), .ref (za G 31), .ref (za G 35), .int (r 10), .int (r 11), .int (r 12)]) := ⟨by decide, fun _ => rfl⟩
theorem oX7 (G : zG) : zO WM G 0 7 (fun r => [.int (r 0), .int (r 1), .ref (za G 1), .ref (za G 2), .int (r 4), .ref (za G 3), .int (r 6), .int (r 7), .ref (za G 4), .ref (za G 5), .ref (za G 6), .int (r 11), .ref (za G 7), .int (r 13), .int (r 14), .int (r 15), .ref (za G 8), .ref (za G 9), .int (r 18), .int (r 19), .ref (za G 10), .ref (za G 11), .int (r 22), .int (r 23), .ref (za G 12), .ref (za G 13), .ref (za G 14), .ref (za G 15), .int (r 28), .int (r 29), .int (r 30), .int (r 31), .int (r 32), .ref (za G 16), .ref (za G 17), .ref (za G 18), .int (r 36), .int (r 37), .int (r 38), .int (r 39), .ref (za G 19), .int (r 41), .ref (za G 20), .int (r 43), .ref (za G 21), .long (zLg (r 45) (r 145)), .int (r 46), .int (r 47), .int (r 48), .ref (za G 22), .ref (za G 23), .ref (za G 24), .ref (za G 25), .ref (za G 26), .long (zLg (r 54) (r 154))]) := ⟨by decide, fun _ => rfl⟩
theorem vX7_2 (G : zG) : zV WM G 1 8 := ⟨by decide, fun _ => rfl⟩
theorem vX7_3 (G : zG) : zV WM G 2 16 := ⟨by decide, fun _ => rfl⟩
theorem vX7_5 (G : zG) : zV WM G 3 30 := ⟨by decide, fun _ => rfl⟩
theorem vX7_8 (G : zG) : zV WM G 4 6 := ⟨by decide, fun _ => rfl⟩
theorem vX7_9 (G : zG) : zV WM G 5 6 := ⟨by decide, fun _ => rfl⟩
theorem vX7_10 (G : zG) : zV WM G 6 6 := ⟨by decide, fun _ => rfl⟩
theorem vX7_12 (G : zG) : zV8 WM G 7 34 := ⟨by decide, fun _ => rfl⟩
theorem vX7_16 (G : zG) : zV WM G 8 8 := ⟨by decide, fun _ => rfl⟩
theorem vX7_17 (G : zG) : zV WM G 9 16 := ⟨by decide, fun _ => rfl⟩
theorem vX7_20 (G : zG) : zV WM G 10 8 := ⟨by decide, fun _ => rfl⟩
theorem vX7_21 (G : zG) : zV WM G 11 16 := ⟨by decide, fun _ => rfl⟩
theorem vX7_24 (G : zG) : zV WM G 12 8 := ⟨by decide, fun _ => rfl⟩
theorem vX7_25 (G : zG) : zV WM G 13 8 := ⟨by decide, fun _ => rfl⟩
theorem vX7_26 (G : zG) : zV WM G 14 8 := ⟨by decide, fun _ => rfl⟩
theorem vX7_27 (G : zG) : zV WM G 15 8 := ⟨by decide, fun _ => rfl⟩
theorem vX7_33 (G : zG) : zV WM G 16 8 := ⟨by decide, fun _ => rfl⟩
theorem vX7_34 (G : zG) : zV WM G 17 8 := ⟨by decide, fun _ => rfl⟩
theorem vX7_35 (G : zG) : zV WM G 18 8 := ⟨by decide, fun _ => rfl⟩
theorem vX7_40 (G : zG) : zV WM G 19 128 := ⟨by decide, fun _ => rfl⟩
theorem vX7_42 (G : zG) : zV WM G 20 256 := ⟨by decide, fun _ => rfl⟩
theorem vX7_44 (G : zG) : zV WM G 21 64 := ⟨by decide, fun _ => rfl⟩
theorem vX7_49 (G : zG) : zV WM G 22 8 := ⟨by decide, fun _ => rfl⟩
theorem vX7_50 (G : zG) : zV WM G 23 16 := ⟨by decide, fun _ => rfl⟩
theorem vX7_51 (G : zG) : zV WM G 24 6 := ⟨by decide, fun _ => rfl⟩
theorem vX7_52 (G : zG) : zV WM G 25 6 := ⟨by decide, fun _ => rfl⟩
theorem vX7_53 (G : zG) : zV WM G 26 6 := ⟨by decide, fun _ => rfl⟩
section ZF
variable {p : Program} {l : Launch} {e : Env} {R : Room} {s : State} {m : MethodId} {args : Array Value} {below : List Frame} {meth : Method} {c : Code} {H : Heap} {locs : List Loc} {cells slots : Nat} {Q : State → Prop}
variable {cc : ByteArray} {pc : Nat} {ls : Array Slot} {rest : List Value} {G : zG} {own : String} {σ : SF} {index : Nat}
theorem gX0_0 {j : Nat} (hj : isF j) (hx : p.tables.exec = Jvm.exec) (hb : c.code = cc) (hC : zC WF G own args s m) (hI : zI WF G s σ H locs) (hl : Cond.fieldLink own index "FlowFold$Flow" "jumps" "LFlowFold$Jumps;" ∈ AW) (hdg : decode cc pc = .ok (.getfield index, 3)) (kk : W p l e R s m args below meth c H locs cells slots Q (F0 m (pc + 3) ls (.ref (za G j) :: rest))) : W p l e R s m args below meth c H locs cells slots Q (F0 m pc ls (.ref (za G (j + 4)) :: rest)) := z_get hx hb hC hI (oX0 G hj) rfl iX0 0 (by decide) rfl rfl hl hdg kk
theorem gX0_1 {j : Nat} (hj : isF j) (hx : p.tables.exec = Jvm.exec) (hb : c.code = cc) (hC : zC WF G own args s m) (hI : zI WF G s σ H locs) (hl : Cond.fieldLink own index "FlowFold$Flow" "targets" "[I" ∈ AW) (hdg : decode cc pc = .ok (.getfield index, 3)) (kk : W p l e R s m args below meth c H locs cells slots Q (F0 m (pc + 3) ls (.ref (za G (j + 5)) :: rest))) : W p l e R s m args below meth c H locs cells slots Q (F0 m pc ls (.ref (za G (j + 4)) :: rest)) := z_get hx hb hC hI (oX0 G hj) rfl iX0 1 (by decide) rfl rfl hl hdg kk
theorem gX0_2 {j : Nat} (hj : isF j) (hx : p.tables.exec = Jvm.exec) (hb : c.code = cc) (hC : zC WF G own args s m) (hI : zI WF G s σ H locs) (hl : Cond.fieldLink own index "FlowFold$Flow" "states" "[I" ∈ AW) (hdg : decode cc pc = .ok (.getfield index, 3)) (kk : W p l e R s m args below meth c H locs cells slots Q (F0 m (pc + 3) ls (.ref (za G (j + 6)) :: rest))) : W p l e R s m args below meth c H locs cells slots Q (F0 m pc ls (.ref (za G (j + 4)) :: rest)) := z_get hx hb hC hI (oX0 G hj) rfl iX0 2 (by decide) rfl rfl hl hdg kk
theorem gX0_3 {j : Nat} (hj : isF j) (hx : p.tables.exec = Jvm.exec) (hb : c.code = cc) (hC : zC WF G own args s m) (hI : zI WF G s σ H locs) (hl : Cond.fieldLink own index "FlowFold$Flow" "done" "[I" ∈ AW) (hdg : decode cc pc = .ok (.getfield index, 3)) (kk : W p l e R s m args below meth c H locs cells slots Q (F0 m (pc + 3) ls (.ref (za G (j + 7)) :: rest))) : W p l e R s m args below meth c H locs cells slots Q (F0 m pc ls (.ref (za G (j + 4)) :: rest)) := z_get hx hb hC hI (oX0 G hj) rfl iX0 3 (by decide) rfl rfl hl hdg kk
theorem gX0_4 {j : Nat} (hj : isF j) (hx : p.tables.exec = Jvm.exec) (hb : c.code = cc) (hC : zC WF G own args s m) (hI : zI WF G s σ H locs) (hl : Cond.fieldLink own index "FlowFold$Flow" "places" "[I" ∈ AW) (hdg : decode cc pc = .ok (.getfield index, 3)) (kk : W p l e R s m args below meth c H locs cells slots Q (F0 m (pc + 3) ls (.ref (za G (j + 8)) :: rest))) : W p l e R s m args below meth c H locs cells slots Q (F0 m pc ls (.ref (za G (j + 4)) :: rest)) := z_get hx hb hC hI (oX0 G hj) rfl iX0 4 (by decide) rfl rfl hl hdg kk
theorem gX0_5 {j : Nat} (hj : isF j) (hx : p.tables.exec = Jvm.exec) (hb : c.code = cc) (hC : zC WF G own args s m) (hI : zI WF G s σ H locs) (hl : Cond.fieldLink own index "FlowFold$Flow" "rulers" "[I" ∈ AW) (hdg : decode cc pc = .ok (.getfield index, 3)) (kk : W p l e R s m args below meth c H locs cells slots Q (F0 m (pc + 3) ls (.ref (za G (j + 9)) :: rest))) : W p l e R s m args below meth c H locs cells slots Q (F0 m pc ls (.ref (za G (j + 4)) :: rest)) := z_get hx hb hC hI (oX0 G hj) rfl iX0 5 (by decide) rfl rfl hl hdg kk
theorem gX0_6 {j : Nat} (hj : isF j) (hx : p.tables.exec = Jvm.exec) (hb : c.code = cc) (hC : zC WF G own args s m) (hI : zI WF G s σ H locs) (hl : Cond.fieldLink own index "FlowFold$Flow" "size" "I" ∈ AW) (hdg : decode cc pc = .ok (.getfield index, 3)) (kk : W p l e R s m args below meth c H locs cells slots Q (F0 m (pc + 3) ls (.int (σ (j + 4) 6) :: rest))) : W p l e R s m args below meth c H locs cells slots Q (F0 m pc ls (.ref (za G (j + 4)) :: rest)) := z_get hx hb hC hI (oX0 G hj) rfl iX0 6 (by decide) rfl rfl hl hdg kk
theorem pX0_6 {j : Nat} (hj : isF j) (hx : p.tables.exec = Jvm.exec) (hb : c.code = cc) (hC : zC WF G own args s m) (hI : zI WF G s σ H locs) {v : Int32} (hl : Cond.fieldLink own index "FlowFold$Flow" "size" "I" ∈ AW) (hdg : decode cc pc = .ok (.putfield index, 3)) (kk : ∀ (σ1 : SF) (H1 : Heap) (locs1 : List Loc), σ1 = zst σ (j + 4) 6 v → zI WF G s σ1 H1 locs1 → W p l e R s m args below meth c H1 locs1 cells slots Q (F0 m (pc + 3) ls rest)) : W p l e R s m args below meth c H locs cells slots Q (F0 m pc ls (.int v :: .ref (za G (j + 4)) :: rest)) := z_put hx hb hC hI (oX0 G hj) rfl iX0 tyX0 tyX0_ok nmX0 6 (by decide) rfl rfl (ty := .int) (by decide +kernel) rfl rfl (Nat.le_of_ble_eq_true rfl) rfl hl hdg kk
theorem gX0_7 {j : Nat} (hj : isF j) (hx : p.tables.exec = Jvm.exec) (hb : c.code = cc) (hC : zC WF G own args s m) (hI : zI WF G s σ H locs) (hl : Cond.fieldLink own index "FlowFold$Flow" "reached" "I" ∈ AW) (hdg : decode cc pc = .ok (.getfield index, 3)) (kk : W p l e R s m args below meth c H locs cells slots Q (F0 m (pc + 3) ls (.int (σ (j + 4) 7) :: rest))) : W p l e R s m args below meth c H locs cells slots Q (F0 m pc ls (.ref (za G (j + 4)) :: rest)) := z_get hx hb hC hI (oX0 G hj) rfl iX0 7 (by decide) rfl rfl hl hdg kk
theorem pX0_7 {j : Nat} (hj : isF j) (hx : p.tables.exec = Jvm.exec) (hb : c.code = cc) (hC : zC WF G own args s m) (hI : zI WF G s σ H locs) {v : Int32} (hl : Cond.fieldLink own index "FlowFold$Flow" "reached" "I" ∈ AW) (hdg : decode cc pc = .ok (.putfield index, 3)) (kk : ∀ (σ1 : SF) (H1 : Heap) (locs1 : List Loc), σ1 = zst σ (j + 4) 7 v → zI WF G s σ1 H1 locs1 → W p l e R s m args below meth c H1 locs1 cells slots Q (F0 m (pc + 3) ls rest)) : W p l e R s m args below meth c H locs cells slots Q (F0 m pc ls (.int v :: .ref (za G (j + 4)) :: rest)) := z_put hx hb hC hI (oX0 G hj) rfl iX0 tyX0 tyX0_ok nmX0 7 (by decide) rfl rfl (ty := .int) (by decide +kernel) rfl rfl (Nat.le_of_ble_eq_true rfl) rfl hl hdg kk
theorem gX0_8 {j : Nat} (hj : isF j) (hx : p.tables.exec = Jvm.exec) (hb : c.code = cc) (hC : zC WF G own args s m) (hI : zI WF G s σ H locs) (hl : Cond.fieldLink own index "FlowFold$Flow" "edges" "I" ∈ AW) (hdg : decode cc pc = .ok (.getfield index, 3)) (kk : W p l e R s m args below meth c H locs cells slots Q (F0 m (pc + 3) ls (.int (σ (j + 4) 8) :: rest))) : W p l e R s m args below meth c H locs cells slots Q (F0 m pc ls (.ref (za G (j + 4)) :: rest)) := z_get hx hb hC hI (oX0 G hj) rfl iX0 8 (by decide) rfl rfl hl hdg kk
theorem pX0_8 {j : Nat} (hj : isF j) (hx : p.tables.exec = Jvm.exec) (hb : c.code = cc) (hC : zC WF G own args s m) (hI : zI WF G s σ H locs) {v : Int32} (hl : Cond.fieldLink own index "FlowFold$Flow" "edges" "I" ∈ AW) (hdg : decode cc pc = .ok (.putfield index, 3)) (kk : ∀ (σ1 : SF) (H1 : Heap) (locs1 : List Loc), σ1 = zst σ (j + 4) 8 v → zI WF G s σ1 H1 locs1 → W p l e R s m args below meth c H1 locs1 cells slots Q (F0 m (pc + 3) ls rest)) : W p l e R s m args below meth c H locs cells slots Q (F0 m pc ls (.int v :: .ref (za G (j + 4)) :: rest)) := z_put hx hb hC hI (oX0 G hj) rfl iX0 tyX0 tyX0_ok nmX0 8 (by decide) rfl rfl (ty := .int) (by decide +kernel) rfl rfl (Nat.le_of_ble_eq_true rfl) rfl hl hdg kk
theorem gX0_9 {j : Nat} (hj : isF j) (hx : p.tables.exec = Jvm.exec) (hb : c.code = cc) (hC : zC WF G own args s m) (hI : zI WF G s σ H locs) (hl : Cond.fieldLink own index "FlowFold$Flow" "backs" "I" ∈ AW) (hdg : decode cc pc = .ok (.getfield index, 3)) (kk : W p l e R s m args below meth c H locs cells slots Q (F0 m (pc + 3) ls (.int (σ (j + 4) 9) :: rest))) : W p l e R s m args below meth c H locs cells slots Q (F0 m pc ls (.ref (za G (j + 4)) :: rest)) := z_get hx hb hC hI (oX0 G hj) rfl iX0 9 (by decide) rfl rfl hl hdg kk
theorem pX0_9 {j : Nat} (hj : isF j) (hx : p.tables.exec = Jvm.exec) (hb : c.code = cc) (hC : zC WF G own args s m) (hI : zI WF G s σ H locs) {v : Int32} (hl : Cond.fieldLink own index "FlowFold$Flow" "backs" "I" ∈ AW) (hdg : decode cc pc = .ok (.putfield index, 3)) (kk : ∀ (σ1 : SF) (H1 : Heap) (locs1 : List Loc), σ1 = zst σ (j + 4) 9 v → zI WF G s σ1 H1 locs1 → W p l e R s m args below meth c H1 locs1 cells slots Q (F0 m (pc + 3) ls rest)) : W p l e R s m args below meth c H locs cells slots Q (F0 m pc ls (.int v :: .ref (za G (j + 4)) :: rest)) := z_put hx hb hC hI (oX0 G hj) rfl iX0 tyX0 tyX0_ok nmX0 9 (by decide) rfl rfl (ty := .int) (by decide +kernel) rfl rfl (Nat.le_of_ble_eq_true rfl) rfl hl hdg kk
theorem gX0_10 {j : Nat} (hj : isF j) (hx : p.tables.exec = Jvm.exec) (hb : c.code = cc) (hC : zC WF G own args s m) (hI : zI WF G s σ H locs) (hl : Cond.fieldLink own index "FlowFold$Flow" "bads" "I" ∈ AW) (hdg : decode cc pc = .ok (.getfield index, 3)) (kk : W p l e R s m args below meth c H locs cells slots Q (F0 m (pc + 3) ls (.int (σ (j + 4) 10) :: rest))) : W p l e R s m args below meth c H locs cells slots Q (F0 m pc ls (.ref (za G (j + 4)) :: rest)) := z_get hx hb hC hI (oX0 G hj) rfl iX0 10 (by decide) rfl rfl hl hdg kk
theorem pX0_10 {j : Nat} (hj : isF j) (hx : p.tables.exec = Jvm.exec) (hb : c.code = cc) (hC : zC WF G own args s m) (hI : zI WF G s σ H locs) {v : Int32} (hl : Cond.fieldLink own index "FlowFold$Flow" "bads" "I" ∈ AW) (hdg : decode cc pc = .ok (.putfield index, 3)) (kk : ∀ (σ1 : SF) (H1 : Heap) (locs1 : List Loc), σ1 = zst σ (j + 4) 10 v → zI WF G s σ1 H1 locs1 → W p l e R s m args below meth c H1 locs1 cells slots Q (F0 m (pc + 3) ls rest)) : W p l e R s m args below meth c H locs cells slots Q (F0 m pc ls (.int v :: .ref (za G (j + 4)) :: rest)) := z_put hx hb hC hI (oX0 G hj) rfl iX0 tyX0 tyX0_ok nmX0 10 (by decide) rfl rfl (ty := .int) (by decide +kernel) rfl rfl (Nat.le_of_ble_eq_true rfl) rfl hl hdg kk
theorem gX0_11 {j : Nat} (hj : isF j) (hx : p.tables.exec = Jvm.exec) (hb : c.code = cc) (hC : zC WF G own args s m) (hI : zI WF G s σ H locs) (hl : Cond.fieldLink own index "FlowFold$Flow" "heads" "I" ∈ AW) (hdg : decode cc pc = .ok (.getfield index, 3)) (kk : W p l e R s m args below meth c H locs cells slots Q (F0 m (pc + 3) ls (.int (σ (j + 4) 11) :: rest))) : W p l e R s m args below meth c H locs cells slots Q (F0 m pc ls (.ref (za G (j + 4)) :: rest)) := z_get hx hb hC hI (oX0 G hj) rfl iX0 11 (by decide) rfl rfl hl hdg kk
theorem pX0_11 {j : Nat} (hj : isF j) (hx : p.tables.exec = Jvm.exec) (hb : c.code = cc) (hC : zC WF G own args s m) (hI : zI WF G s σ H locs) {v : Int32} (hl : Cond.fieldLink own index "FlowFold$Flow" "heads" "I" ∈ AW) (hdg : decode cc pc = .ok (.putfield index, 3)) (kk : ∀ (σ1 : SF) (H1 : Heap) (locs1 : List Loc), σ1 = zst σ (j + 4) 11 v → zI WF G s σ1 H1 locs1 → W p l e R s m args below meth c H1 locs1 cells slots Q (F0 m (pc + 3) ls rest)) : W p l e R s m args below meth c H locs cells slots Q (F0 m pc ls (.int v :: .ref (za G (j + 4)) :: rest)) := z_put hx hb hC hI (oX0 G hj) rfl iX0 tyX0 tyX0_ok nmX0 11 (by decide) rfl rfl (ty := .int) (by decide +kernel) rfl rfl (Nat.le_of_ble_eq_true rfl) rfl hl hdg kk
theorem gX0_12 {j : Nat} (hj : isF j) (hx : p.tables.exec = Jvm.exec) (hb : c.code = cc) (hC : zC WF G own args s m) (hI : zI WF G s σ H locs) (hl : Cond.fieldLink own index "FlowFold$Flow" "merges" "I" ∈ AW) (hdg : decode cc pc = .ok (.getfield index, 3)) (kk : W p l e R s m args below meth c H locs cells slots Q (F0 m (pc + 3) ls (.int (σ (j + 4) 12) :: rest))) : W p l e R s m args below meth c H locs cells slots Q (F0 m pc ls (.ref (za G (j + 4)) :: rest)) := z_get hx hb hC hI (oX0 G hj) rfl iX0 12 (by decide) rfl rfl hl hdg kk
theorem pX0_12 {j : Nat} (hj : isF j) (hx : p.tables.exec = Jvm.exec) (hb : c.code = cc) (hC : zC WF G own args s m) (hI : zI WF G s σ H locs) {v : Int32} (hl : Cond.fieldLink own index "FlowFold$Flow" "merges" "I" ∈ AW) (hdg : decode cc pc = .ok (.putfield index, 3)) (kk : ∀ (σ1 : SF) (H1 : Heap) (locs1 : List Loc), σ1 = zst σ (j + 4) 12 v → zI WF G s σ1 H1 locs1 → W p l e R s m args below meth c H1 locs1 cells slots Q (F0 m (pc + 3) ls rest)) : W p l e R s m args below meth c H locs cells slots Q (F0 m pc ls (.int v :: .ref (za G (j + 4)) :: rest)) := z_put hx hb hC hI (oX0 G hj) rfl iX0 tyX0 tyX0_ok nmX0 12 (by decide) rfl rfl (ty := .int) (by decide +kernel) rfl rfl (Nat.le_of_ble_eq_true rfl) rfl hl hdg kk
theorem gX1_0 {b : Nat} (hb1 : isJ b) (hx : p.tables.exec = Jvm.exec) (hb : c.code = cc) (hC : zC WF G own args s m) (hI : zI WF G s σ H locs) (hl : Cond.fieldLink own index "FlowFold$Jumps" "nodes" "I" ∈ AW) (hdg : decode cc pc = .ok (.getfield index, 3)) (kk : W p l e R s m args below meth c H locs cells slots Q (F0 m (pc + 3) ls (.int (σ b 0) :: rest))) : W p l e R s m args below meth c H locs cells slots Q (F0 m pc ls (.ref (za G b) :: rest)) := z_get hx hb hC hI (oX1 G hb1) rfl iX1 0 (by decide) rfl rfl hl hdg kk
theorem pX1_0 {b : Nat} (hb1 : isJ b) (hx : p.tables.exec = Jvm.exec) (hb : c.code = cc) (hC : zC WF G own args s m) (hI : zI WF G s σ H locs) {v : Int32} (hl : Cond.fieldLink own index "FlowFold$Jumps" "nodes" "I" ∈ AW) (hdg : decode cc pc = .ok (.putfield index, 3)) (kk : ∀ (σ1 : SF) (H1 : Heap) (locs1 : List Loc), σ1 = zst σ b 0 v → zI WF G s σ1 H1 locs1 → W p l e R s m args below meth c H1 locs1 cells slots Q (F0 m (pc + 3) ls rest)) : W p l e R s m args below meth c H locs cells slots Q (F0 m pc ls (.int v :: .ref (za G b) :: rest)) := z_put hx hb hC hI (oX1 G hb1) rfl iX1 tyX1 tyX1_ok nmX1 0 (by decide) rfl rfl (ty := .int) (by decide +kernel) rfl rfl (Nat.le_of_ble_eq_true rfl) rfl hl hdg kk
theorem gX1_1 {b : Nat} (hb1 : isJ b) (hx : p.tables.exec = Jvm.exec) (hb : c.code = cc) (hC : zC WF G own args s m) (hI : zI WF G s σ H locs) (hl : Cond.fieldLink own index "FlowFold$Jumps" "kinds" "[I" ∈ AW) (hdg : decode cc pc = .ok (.getfield index, 3)) (kk : W p l e R s m args below meth c H locs cells slots Q (F0 m (pc + 3) ls (.ref (za G (b + 1)) :: rest))) : W p l e R s m args below meth c H locs cells slots Q (F0 m pc ls (.ref (za G b) :: rest)) := z_get hx hb hC hI (oX1 G hb1) rfl iX1 1 (by decide) rfl rfl hl hdg kk
theorem gX1_2 {b : Nat} (hb1 : isJ b) (hx : p.tables.exec = Jvm.exec) (hb : c.code = cc) (hC : zC WF G own args s m) (hI : zI WF G s σ H locs) (hl : Cond.fieldLink own index "FlowFold$Jumps" "firsts" "[I" ∈ AW) (hdg : decode cc pc = .ok (.getfield index, 3)) (kk : W p l e R s m args below meth c H locs cells slots Q (F0 m (pc + 3) ls (.ref (za G (b + 2)) :: rest))) : W p l e R s m args below meth c H locs cells slots Q (F0 m pc ls (.ref (za G b) :: rest)) := z_get hx hb hC hI (oX1 G hb1) rfl iX1 2 (by decide) rfl rfl hl hdg kk
theorem gX1_3 {b : Nat} (hb1 : isJ b) (hx : p.tables.exec = Jvm.exec) (hb : c.code = cc) (hC : zC WF G own args s m) (hI : zI WF G s σ H locs) (hl : Cond.fieldLink own index "FlowFold$Jumps" "seconds" "[I" ∈ AW) (hdg : decode cc pc = .ok (.getfield index, 3)) (kk : W p l e R s m args below meth c H locs cells slots Q (F0 m (pc + 3) ls (.ref (za G (b + 3)) :: rest))) : W p l e R s m args below meth c H locs cells slots Q (F0 m pc ls (.ref (za G b) :: rest)) := z_get hx hb hC hI (oX1 G hb1) rfl iX1 3 (by decide) rfl rfl hl hdg kk
theorem gX2_0 (hx : p.tables.exec = Jvm.exec) (hb : c.code = cc) (hC : zC WF G own args s m) (hI : zI WF G s σ H locs) (hl : Cond.fieldLink own index "FlowFold$Page" "codes" "[I" ∈ AW) (hdg : decode cc pc = .ok (.getfield index, 3)) (kk : W p l e R s m args below meth c H locs cells slots Q (F0 m (pc + 3) ls (.ref (za G 2) :: rest))) : W p l e R s m args below meth c H locs cells slots Q (F0 m pc ls (.ref (za G 1) :: rest)) := z_get hx hb hC hI (oX2 G) rfl iX2 0 (by decide) rfl rfl hl hdg kk
theorem gX2_1 (hx : p.tables.exec = Jvm.exec) (hb : c.code = cc) (hC : zC WF G own args s m) (hI : zI WF G s σ H locs) (hl : Cond.fieldLink own index "FlowFold$Page" "size" "I" ∈ AW) (hdg : decode cc pc = .ok (.getfield index, 3)) (kk : W p l e R s m args below meth c H locs cells slots Q (F0 m (pc + 3) ls (.int (σ 1 1) :: rest))) : W p l e R s m args below meth c H locs cells slots Q (F0 m pc ls (.ref (za G 1) :: rest)) := z_get hx hb hC hI (oX2 G) rfl iX2 1 (by decide) rfl rfl hl hdg kk
theorem pX2_1 (hx : p.tables.exec = Jvm.exec) (hb : c.code = cc) (hC : zC WF G own args s m) (hI : zI WF G s σ H locs) {v : Int32} (hl : Cond.fieldLink own index "FlowFold$Page" "size" "I" ∈ AW) (hdg : decode cc pc = .ok (.putfield index, 3)) (kk : ∀ (σ1 : SF) (H1 : Heap) (locs1 : List Loc), σ1 = zst σ 1 1 v → zI WF G s σ1 H1 locs1 → W p l e R s m args below meth c H1 locs1 cells slots Q (F0 m (pc + 3) ls rest)) : W p l e R s m args below meth c H locs cells slots Q (F0 m pc ls (.int v :: .ref (za G 1) :: rest)) := z_put hx hb hC hI (oX2 G) rfl iX2 tyX2 tyX2_ok nmX2 1 (by decide) rfl rfl (ty := .int) (by decide +kernel) rfl rfl (Nat.le_of_ble_eq_true rfl) rfl hl hdg kk
theorem gX2_2 (hx : p.tables.exec = Jvm.exec) (hb : c.code = cc) (hC : zC WF G own args s m) (hI : zI WF G s σ H locs) (hl : Cond.fieldLink own index "FlowFold$Page" "whole" "Z" ∈ AW) (hdg : decode cc pc = .ok (.getfield index, 3)) (kk : W p l e R s m args below meth c H locs cells slots Q (F0 m (pc + 3) ls (.int (σ 1 2) :: rest))) : W p l e R s m args below meth c H locs cells slots Q (F0 m pc ls (.ref (za G 1) :: rest)) := z_get hx hb hC hI (oX2 G) rfl iX2 2 (by decide) rfl rfl hl hdg kk
theorem pX2_2 (hx : p.tables.exec = Jvm.exec) (hb : c.code = cc) (hC : zC WF G own args s m) (hI : zI WF G s σ H locs) {v : Int32} (hn : narrow .boolean (.int v) = .int v) (hft : fits .boolean (.int v) = true) (hl : Cond.fieldLink own index "FlowFold$Page" "whole" "Z" ∈ AW) (hdg : decode cc pc = .ok (.putfield index, 3)) (kk : ∀ (σ1 : SF) (H1 : Heap) (locs1 : List Loc), σ1 = zst σ 1 2 v → zI WF G s σ1 H1 locs1 → W p l e R s m args below meth c H1 locs1 cells slots Q (F0 m (pc + 3) ls rest)) : W p l e R s m args below meth c H locs cells slots Q (F0 m pc ls (.int v :: .ref (za G 1) :: rest)) := z_put hx hb hC hI (oX2 G) rfl iX2 tyX2 tyX2_ok nmX2 2 (by decide) rfl rfl (ty := .boolean) (by decide +kernel) hn hft (Nat.le_of_ble_eq_true rfl) rfl hl hdg kk
theorem gX2_3 (hx : p.tables.exec = Jvm.exec) (hb : c.code = cc) (hC : zC WF G own args s m) (hI : zI WF G s σ H locs) (hl : Cond.fieldLink own index "FlowFold$Page" "highest" "I" ∈ AW) (hdg : decode cc pc = .ok (.getfield index, 3)) (kk : W p l e R s m args below meth c H locs cells slots Q (F0 m (pc + 3) ls (.int (σ 1 3) :: rest))) : W p l e R s m args below meth c H locs cells slots Q (F0 m pc ls (.ref (za G 1) :: rest)) := z_get hx hb hC hI (oX2 G) rfl iX2 3 (by decide) rfl rfl hl hdg kk
theorem pX2_3 (hx : p.tables.exec = Jvm.exec) (hb : c.code = cc) (hC : zC WF G own args s m) (hI : zI WF G s σ H locs) {v : Int32} (hl : Cond.fieldLink own index "FlowFold$Page" "highest" "I" ∈ AW) (hdg : decode cc pc = .ok (.putfield index, 3)) (kk : ∀ (σ1 : SF) (H1 : Heap) (locs1 : List Loc), σ1 = zst σ 1 3 v → zI WF G s σ1 H1 locs1 → W p l e R s m args below meth c H1 locs1 cells slots Q (F0 m (pc + 3) ls rest)) : W p l e R s m args below meth c H locs cells slots Q (F0 m pc ls (.int v :: .ref (za G 1) :: rest)) := z_put hx hb hC hI (oX2 G) rfl iX2 tyX2 tyX2_ok nmX2 3 (by decide) rfl rfl (ty := .int) (by decide +kernel) rfl rfl (Nat.le_of_ble_eq_true rfl) rfl hl hdg kk
theorem gX3_0 {b : Nat} (hb1 : isS b) (hx : p.tables.exec = Jvm.exec) (hb : c.code = cc) (hC : zC WF G own args s m) (hI : zI WF G s σ H locs) (hl : Cond.fieldLink own index "FlowFold$Seen" "size" "I" ∈ AW) (hdg : decode cc pc = .ok (.getfield index, 3)) (kk : W p l e R s m args below meth c H locs cells slots Q (F0 m (pc + 3) ls (.int (σ b 0) :: rest))) : W p l e R s m args below meth c H locs cells slots Q (F0 m pc ls (.ref (za G b) :: rest)) := z_get hx hb hC hI (oX3 G hb1) rfl iX3 0 (by decide) rfl rfl hl hdg kk
theorem pX3_0 {b : Nat} (hb1 : isS b) (hx : p.tables.exec = Jvm.exec) (hb : c.code = cc) (hC : zC WF G own args s m) (hI : zI WF G s σ H locs) {v : Int32} (hl : Cond.fieldLink own index "FlowFold$Seen" "size" "I" ∈ AW) (hdg : decode cc pc = .ok (.putfield index, 3)) (kk : ∀ (σ1 : SF) (H1 : Heap) (locs1 : List Loc), σ1 = zst σ b 0 v → zI WF G s σ1 H1 locs1 → W p l e R s m args below meth c H1 locs1 cells slots Q (F0 m (pc + 3) ls rest)) : W p l e R s m args below meth c H locs cells slots Q (F0 m pc ls (.int v :: .ref (za G b) :: rest)) := z_put hx hb hC hI (oX3 G hb1) rfl iX3 tyX3 tyX3_ok nmX3 0 (by decide) rfl rfl (ty := .int) (by decide +kernel) rfl rfl (Nat.le_of_ble_eq_true rfl) rfl hl hdg kk
theorem gX3_1 {b : Nat} (hb1 : isS b) (hx : p.tables.exec = Jvm.exec) (hb : c.code = cc) (hC : zC WF G own args s m) (hI : zI WF G s σ H locs) (hl : Cond.fieldLink own index "FlowFold$Seen" "nodes" "[I" ∈ AW) (hdg : decode cc pc = .ok (.getfield index, 3)) (kk : W p l e R s m args below meth c H locs cells slots Q (F0 m (pc + 3) ls (.ref (za G (b + 1)) :: rest))) : W p l e R s m args below meth c H locs cells slots Q (F0 m pc ls (.ref (za G b) :: rest)) := z_get hx hb hC hI (oX3 G hb1) rfl iX3 1 (by decide) rfl rfl hl hdg kk
theorem gX3_2 {b : Nat} (hb1 : isS b) (hx : p.tables.exec = Jvm.exec) (hb : c.code = cc) (hC : zC WF G own args s m) (hI : zI WF G s σ H locs) (hl : Cond.fieldLink own index "FlowFold$Seen" "visits" "[I" ∈ AW) (hdg : decode cc pc = .ok (.getfield index, 3)) (kk : W p l e R s m args below meth c H locs cells slots Q (F0 m (pc + 3) ls (.ref (za G (b + 2)) :: rest))) : W p l e R s m args below meth c H locs cells slots Q (F0 m pc ls (.ref (za G b) :: rest)) := z_get hx hb hC hI (oX3 G hb1) rfl iX3 2 (by decide) rfl rfl hl hdg kk
theorem gX3_3 {b : Nat} (hb1 : isS b) (hx : p.tables.exec = Jvm.exec) (hb : c.code = cc) (hC : zC WF G own args s m) (hI : zI WF G s σ H locs) (hl : Cond.fieldLink own index "FlowFold$Seen" "dids" "[I" ∈ AW) (hdg : decode cc pc = .ok (.getfield index, 3)) (kk : W p l e R s m args below meth c H locs cells slots Q (F0 m (pc + 3) ls (.ref (za G (b + 3)) :: rest))) : W p l e R s m args below meth c H locs cells slots Q (F0 m pc ls (.ref (za G b) :: rest)) := z_get hx hb hC hI (oX3 G hb1) rfl iX3 3 (by decide) rfl rfl hl hdg kk
theorem gX4_0 (hx : p.tables.exec = Jvm.exec) (hb : c.code = cc) (hC : zC WF G own args s m) (hI : zI WF G s σ H locs) (hl : Cond.fieldLink own index "FlowFold$Signs" "jumps" "LFlowFold$Jumps;" ∈ AW) (hdg : decode cc pc = .ok (.getfield index, 3)) (kk : W p l e R s m args below meth c H locs cells slots Q (F0 m (pc + 3) ls (.ref (za G 3) :: rest))) : W p l e R s m args below meth c H locs cells slots Q (F0 m pc ls (.ref (za G 13) :: rest)) := z_get hx hb hC hI (oX4 G) rfl iX4 0 (by decide) rfl rfl hl hdg kk
theorem gX4_1 (hx : p.tables.exec = Jvm.exec) (hb : c.code = cc) (hC : zC WF G own args s m) (hI : zI WF G s σ H locs) (hl : Cond.fieldLink own index "FlowFold$Signs" "flow" "LFlowFold$Flow;" ∈ AW) (hdg : decode cc pc = .ok (.getfield index, 3)) (kk : W p l e R s m args below meth c H locs cells slots Q (F0 m (pc + 3) ls (.ref (za G 7) :: rest))) : W p l e R s m args below meth c H locs cells slots Q (F0 m pc ls (.ref (za G 13) :: rest)) := z_get hx hb hC hI (oX4 G) rfl iX4 1 (by decide) rfl rfl hl hdg kk
theorem gX4_2 (hx : p.tables.exec = Jvm.exec) (hb : c.code = cc) (hC : zC WF G own args s m) (hI : zI WF G s σ H locs) (hl : Cond.fieldLink own index "FlowFold$Signs" "row" "[I" ∈ AW) (hdg : decode cc pc = .ok (.getfield index, 3)) (kk : W p l e R s m args below meth c H locs cells slots Q (F0 m (pc + 3) ls (.ref (za G 14) :: rest))) : W p l e R s m args below meth c H locs cells slots Q (F0 m pc ls (.ref (za G 13) :: rest)) := z_get hx hb hC hI (oX4 G) rfl iX4 2 (by decide) rfl rfl hl hdg kk
theorem gX4_3 (hx : p.tables.exec = Jvm.exec) (hb : c.code = cc) (hC : zC WF G own args s m) (hI : zI WF G s σ H locs) (hl : Cond.fieldLink own index "FlowFold$Signs" "size" "I" ∈ AW) (hdg : decode cc pc = .ok (.getfield index, 3)) (kk : W p l e R s m args below meth c H locs cells slots Q (F0 m (pc + 3) ls (.int (σ 13 3) :: rest))) : W p l e R s m args below meth c H locs cells slots Q (F0 m pc ls (.ref (za G 13) :: rest)) := z_get hx hb hC hI (oX4 G) rfl iX4 3 (by decide) rfl rfl hl hdg kk
theorem pX4_3 (hx : p.tables.exec = Jvm.exec) (hb : c.code = cc) (hC : zC WF G own args s m) (hI : zI WF G s σ H locs) {v : Int32} (hl : Cond.fieldLink own index "FlowFold$Signs" "size" "I" ∈ AW) (hdg : decode cc pc = .ok (.putfield index, 3)) (kk : ∀ (σ1 : SF) (H1 : Heap) (locs1 : List Loc), σ1 = zst σ 13 3 v → zI WF G s σ1 H1 locs1 → W p l e R s m args below meth c H1 locs1 cells slots Q (F0 m (pc + 3) ls rest)) : W p l e R s m args below meth c H locs cells slots Q (F0 m pc ls (.int v :: .ref (za G 13) :: rest)) := z_put hx hb hC hI (oX4 G) rfl iX4 tyX4 tyX4_ok nmX4 3 (by decide) rfl rfl (ty := .int) (by decide +kernel) rfl rfl (Nat.le_of_ble_eq_true rfl) rfl hl hdg kk
theorem gX4_4 (hx : p.tables.exec = Jvm.exec) (hb : c.code = cc) (hC : zC WF G own args s m) (hI : zI WF G s σ H locs) (hl : Cond.fieldLink own index "FlowFold$Signs" "waysOut" "I" ∈ AW) (hdg : decode cc pc = .ok (.getfield index, 3)) (kk : W p l e R s m args below meth c H locs cells slots Q (F0 m (pc + 3) ls (.int (σ 13 4) :: rest))) : W p l e R s m args below meth c H locs cells slots Q (F0 m pc ls (.ref (za G 13) :: rest)) := z_get hx hb hC hI (oX4 G) rfl iX4 4 (by decide) rfl rfl hl hdg kk
theorem pX4_4 (hx : p.tables.exec = Jvm.exec) (hb : c.code = cc) (hC : zC WF G own args s m) (hI : zI WF G s σ H locs) {v : Int32} (hl : Cond.fieldLink own index "FlowFold$Signs" "waysOut" "I" ∈ AW) (hdg : decode cc pc = .ok (.putfield index, 3)) (kk : ∀ (σ1 : SF) (H1 : Heap) (locs1 : List Loc), σ1 = zst σ 13 4 v → zI WF G s σ1 H1 locs1 → W p l e R s m args below meth c H1 locs1 cells slots Q (F0 m (pc + 3) ls rest)) : W p l e R s m args below meth c H locs cells slots Q (F0 m pc ls (.int v :: .ref (za G 13) :: rest)) := z_put hx hb hC hI (oX4 G) rfl iX4 tyX4 tyX4_ok nmX4 4 (by decide) rfl rfl (ty := .int) (by decide +kernel) rfl rfl (Nat.le_of_ble_eq_true rfl) rfl hl hdg kk
theorem gX4_5 (hx : p.tables.exec = Jvm.exec) (hb : c.code = cc) (hC : zC WF G own args s m) (hI : zI WF G s σ H locs) (hl : Cond.fieldLink own index "FlowFold$Signs" "depths" "I" ∈ AW) (hdg : decode cc pc = .ok (.getfield index, 3)) (kk : W p l e R s m args below meth c H locs cells slots Q (F0 m (pc + 3) ls (.int (σ 13 5) :: rest))) : W p l e R s m args below meth c H locs cells slots Q (F0 m pc ls (.ref (za G 13) :: rest)) := z_get hx hb hC hI (oX4 G) rfl iX4 5 (by decide) rfl rfl hl hdg kk
theorem pX4_5 (hx : p.tables.exec = Jvm.exec) (hb : c.code = cc) (hC : zC WF G own args s m) (hI : zI WF G s σ H locs) {v : Int32} (hl : Cond.fieldLink own index "FlowFold$Signs" "depths" "I" ∈ AW) (hdg : decode cc pc = .ok (.putfield index, 3)) (kk : ∀ (σ1 : SF) (H1 : Heap) (locs1 : List Loc), σ1 = zst σ 13 5 v → zI WF G s σ1 H1 locs1 → W p l e R s m args below meth c H1 locs1 cells slots Q (F0 m (pc + 3) ls rest)) : W p l e R s m args below meth c H locs cells slots Q (F0 m pc ls (.int v :: .ref (za G 13) :: rest)) := z_put hx hb hC hI (oX4 G) rfl iX4 tyX4 tyX4_ok nmX4 5 (by decide) rfl rfl (ty := .int) (by decide +kernel) rfl rfl (Nat.le_of_ble_eq_true rfl) rfl hl hdg kk
theorem gX4_6 (hx : p.tables.exec = Jvm.exec) (hb : c.code = cc) (hC : zC WF G own args s m) (hI : zI WF G s σ H locs) (hl : Cond.fieldLink own index "FlowFold$Signs" "openMost" "I" ∈ AW) (hdg : decode cc pc = .ok (.getfield index, 3)) (kk : W p l e R s m args below meth c H locs cells slots Q (F0 m (pc + 3) ls (.int (σ 13 6) :: rest))) : W p l e R s m args below meth c H locs cells slots Q (F0 m pc ls (.ref (za G 13) :: rest)) := z_get hx hb hC hI (oX4 G) rfl iX4 6 (by decide) rfl rfl hl hdg kk
theorem pX4_6 (hx : p.tables.exec = Jvm.exec) (hb : c.code = cc) (hC : zC WF G own args s m) (hI : zI WF G s σ H locs) {v : Int32} (hl : Cond.fieldLink own index "FlowFold$Signs" "openMost" "I" ∈ AW) (hdg : decode cc pc = .ok (.putfield index, 3)) (kk : ∀ (σ1 : SF) (H1 : Heap) (locs1 : List Loc), σ1 = zst σ 13 6 v → zI WF G s σ1 H1 locs1 → W p l e R s m args below meth c H1 locs1 cells slots Q (F0 m (pc + 3) ls rest)) : W p l e R s m args below meth c H locs cells slots Q (F0 m pc ls (.int v :: .ref (za G 13) :: rest)) := z_put hx hb hC hI (oX4 G) rfl iX4 tyX4 tyX4_ok nmX4 6 (by decide) rfl rfl (ty := .int) (by decide +kernel) rfl rfl (Nat.le_of_ble_eq_true rfl) rfl hl hdg kk
theorem gX4_7 (hx : p.tables.exec = Jvm.exec) (hb : c.code = cc) (hC : zC WF G own args s m) (hI : zI WF G s σ H locs) (hl : Cond.fieldLink own index "FlowFold$Signs" "open" "[I" ∈ AW) (hdg : decode cc pc = .ok (.getfield index, 3)) (kk : W p l e R s m args below meth c H locs cells slots Q (F0 m (pc + 3) ls (.ref (za G 15) :: rest))) : W p l e R s m args below meth c H locs cells slots Q (F0 m pc ls (.ref (za G 13) :: rest)) := z_get hx hb hC hI (oX4 G) rfl iX4 7 (by decide) rfl rfl hl hdg kk
theorem gX4_8 (hx : p.tables.exec = Jvm.exec) (hb : c.code = cc) (hC : zC WF G own args s m) (hI : zI WF G s σ H locs) (hl : Cond.fieldLink own index "FlowFold$Signs" "opened" "I" ∈ AW) (hdg : decode cc pc = .ok (.getfield index, 3)) (kk : W p l e R s m args below meth c H locs cells slots Q (F0 m (pc + 3) ls (.int (σ 13 8) :: rest))) : W p l e R s m args below meth c H locs cells slots Q (F0 m pc ls (.ref (za G 13) :: rest)) := z_get hx hb hC hI (oX4 G) rfl iX4 8 (by decide) rfl rfl hl hdg kk
theorem pX4_8 (hx : p.tables.exec = Jvm.exec) (hb : c.code = cc) (hC : zC WF G own args s m) (hI : zI WF G s σ H locs) {v : Int32} (hl : Cond.fieldLink own index "FlowFold$Signs" "opened" "I" ∈ AW) (hdg : decode cc pc = .ok (.putfield index, 3)) (kk : ∀ (σ1 : SF) (H1 : Heap) (locs1 : List Loc), σ1 = zst σ 13 8 v → zI WF G s σ1 H1 locs1 → W p l e R s m args below meth c H1 locs1 cells slots Q (F0 m (pc + 3) ls rest)) : W p l e R s m args below meth c H locs cells slots Q (F0 m pc ls (.int v :: .ref (za G 13) :: rest)) := z_put hx hb hC hI (oX4 G) rfl iX4 tyX4 tyX4_ok nmX4 8 (by decide) rfl rfl (ty := .int) (by decide +kernel) rfl rfl (Nat.le_of_ble_eq_true rfl) rfl hl hdg kk
theorem gX5_0 (hx : p.tables.exec = Jvm.exec) (hb : c.code = cc) (hC : zC WF G own args s m) (hI : zI WF G s σ H locs) (hl : Cond.fieldLink own index "FlowFold$Way" "row" "[I" ∈ AW) (hdg : decode cc pc = .ok (.getfield index, 3)) (kk : W p l e R s m args below meth c H locs cells slots Q (F0 m (pc + 3) ls (.ref (za G 17) :: rest))) : W p l e R s m args below meth c H locs cells slots Q (F0 m pc ls (.ref (za G 16) :: rest)) := z_get hx hb hC hI (oX5 G) rfl iX5 0 (by decide) rfl rfl hl hdg kk
theorem gX5_1 (hx : p.tables.exec = Jvm.exec) (hb : c.code = cc) (hC : zC WF G own args s m) (hI : zI WF G s σ H locs) (hl : Cond.fieldLink own index "FlowFold$Way" "size" "I" ∈ AW) (hdg : decode cc pc = .ok (.getfield index, 3)) (kk : W p l e R s m args below meth c H locs cells slots Q (F0 m (pc + 3) ls (.int (σ 16 1) :: rest))) : W p l e R s m args below meth c H locs cells slots Q (F0 m pc ls (.ref (za G 16) :: rest)) := z_get hx hb hC hI (oX5 G) rfl iX5 1 (by decide) rfl rfl hl hdg kk
theorem pX5_1 (hx : p.tables.exec = Jvm.exec) (hb : c.code = cc) (hC : zC WF G own args s m) (hI : zI WF G s σ H locs) {v : Int32} (hl : Cond.fieldLink own index "FlowFold$Way" "size" "I" ∈ AW) (hdg : decode cc pc = .ok (.putfield index, 3)) (kk : ∀ (σ1 : SF) (H1 : Heap) (locs1 : List Loc), σ1 = zst σ 16 1 v → zI WF G s σ1 H1 locs1 → W p l e R s m args below meth c H1 locs1 cells slots Q (F0 m (pc + 3) ls rest)) : W p l e R s m args below meth c H locs cells slots Q (F0 m pc ls (.int v :: .ref (za G 16) :: rest)) := z_put hx hb hC hI (oX5 G) rfl iX5 tyX5 tyX5_ok nmX5 1 (by decide) rfl rfl (ty := .int) (by decide +kernel) rfl rfl (Nat.le_of_ble_eq_true rfl) rfl hl hdg kk
theorem gX5_2 (hx : p.tables.exec = Jvm.exec) (hb : c.code = cc) (hC : zC WF G own args s m) (hI : zI WF G s σ H locs) (hl : Cond.fieldLink own index "FlowFold$Way" "visits" "[I" ∈ AW) (hdg : decode cc pc = .ok (.getfield index, 3)) (kk : W p l e R s m args below meth c H locs cells slots Q (F0 m (pc + 3) ls (.ref (za G 18) :: rest))) : W p l e R s m args below meth c H locs cells slots Q (F0 m pc ls (.ref (za G 16) :: rest)) := z_get hx hb hC hI (oX5 G) rfl iX5 2 (by decide) rfl rfl hl hdg kk
theorem gX6_0 (hx : p.tables.exec = Jvm.exec) (hb : c.code = cc) (hC : zC WF G own args s m) (hI : zI WF G s σ H locs) (hl : Cond.fieldLink own index "FlowFold" "page" "LFlowFold$Page;" ∈ AW) (hdg : decode cc pc = .ok (.getfield index, 3)) (kk : W p l e R s m args below meth c H locs cells slots Q (F0 m (pc + 3) ls (.ref (za G 1) :: rest))) : W p l e R s m args below meth c H locs cells slots Q (F0 m pc ls (.ref (za G 0) :: rest)) := z_get hx hb hC hI (oX6 G) rfl iX6 0 (by decide) rfl rfl hl hdg kk
theorem gX6_1 (hx : p.tables.exec = Jvm.exec) (hb : c.code = cc) (hC : zC WF G own args s m) (hI : zI WF G s σ H locs) (hl : Cond.fieldLink own index "FlowFold" "jumps" "LFlowFold$Jumps;" ∈ AW) (hdg : decode cc pc = .ok (.getfield index, 3)) (kk : W p l e R s m args below meth c H locs cells slots Q (F0 m (pc + 3) ls (.ref (za G 3) :: rest))) : W p l e R s m args below meth c H locs cells slots Q (F0 m pc ls (.ref (za G 0) :: rest)) := z_get hx hb hC hI (oX6 G) rfl iX6 1 (by decide) rfl rfl hl hdg kk
theorem gX6_2 (hx : p.tables.exec = Jvm.exec) (hb : c.code = cc) (hC : zC WF G own args s m) (hI : zI WF G s σ H locs) (hl : Cond.fieldLink own index "FlowFold" "flow" "LFlowFold$Flow;" ∈ AW) (hdg : decode cc pc = .ok (.getfield index, 3)) (kk : W p l e R s m args below meth c H locs cells slots Q (F0 m (pc + 3) ls (.ref (za G 7) :: rest))) : W p l e R s m args below meth c H locs cells slots Q (F0 m pc ls (.ref (za G 0) :: rest)) := z_get hx hb hC hI (oX6 G) rfl iX6 2 (by decide) rfl rfl hl hdg kk
theorem gX6_3 (hx : p.tables.exec = Jvm.exec) (hb : c.code = cc) (hC : zC WF G own args s m) (hI : zI WF G s σ H locs) (hl : Cond.fieldLink own index "FlowFold" "signs" "LFlowFold$Signs;" ∈ AW) (hdg : decode cc pc = .ok (.getfield index, 3)) (kk : W p l e R s m args below meth c H locs cells slots Q (F0 m (pc + 3) ls (.ref (za G 13) :: rest))) : W p l e R s m args below meth c H locs cells slots Q (F0 m pc ls (.ref (za G 0) :: rest)) := z_get hx hb hC hI (oX6 G) rfl iX6 3 (by decide) rfl rfl hl hdg kk
theorem gX6_4 (hx : p.tables.exec = Jvm.exec) (hb : c.code = cc) (hC : zC WF G own args s m) (hI : zI WF G s σ H locs) (hl : Cond.fieldLink own index "FlowFold" "way" "LFlowFold$Way;" ∈ AW) (hdg : decode cc pc = .ok (.getfield index, 3)) (kk : W p l e R s m args below meth c H locs cells slots Q (F0 m (pc + 3) ls (.ref (za G 16) :: rest))) : W p l e R s m args below meth c H locs cells slots Q (F0 m pc ls (.ref (za G 0) :: rest)) := z_get hx hb hC hI (oX6 G) rfl iX6 4 (by decide) rfl rfl hl hdg kk
theorem gX6_5 (hx : p.tables.exec = Jvm.exec) (hb : c.code = cc) (hC : zC WF G own args s m) (hI : zI WF G s σ H locs) (hl : Cond.fieldLink own index "FlowFold" "seen" "LFlowFold$Seen;" ∈ AW) (hdg : decode cc pc = .ok (.getfield index, 3)) (kk : W p l e R s m args below meth c H locs cells slots Q (F0 m (pc + 3) ls (.ref (za G 19) :: rest))) : W p l e R s m args below meth c H locs cells slots Q (F0 m pc ls (.ref (za G 0) :: rest)) := z_get hx hb hC hI (oX6 G) rfl iX6 5 (by decide) rfl rfl hl hdg kk
theorem gX6_6 (hx : p.tables.exec = Jvm.exec) (hb : c.code = cc) (hC : zC WF G own args s m) (hI : zI WF G s σ H locs) (hl : Cond.fieldLink own index "FlowFold" "keptJumps" "LFlowFold$Jumps;" ∈ AW) (hdg : decode cc pc = .ok (.getfield index, 3)) (kk : W p l e R s m args below meth c H locs cells slots Q (F0 m (pc + 3) ls (.ref (za G 23) :: rest))) : W p l e R s m args below meth c H locs cells slots Q (F0 m pc ls (.ref (za G 0) :: rest)) := z_get hx hb hC hI (oX6 G) rfl iX6 6 (by decide) rfl rfl hl hdg kk
theorem gX6_7 (hx : p.tables.exec = Jvm.exec) (hb : c.code = cc) (hC : zC WF G own args s m) (hI : zI WF G s σ H locs) (hl : Cond.fieldLink own index "FlowFold" "keptSeen" "LFlowFold$Seen;" ∈ AW) (hdg : decode cc pc = .ok (.getfield index, 3)) (kk : W p l e R s m args below meth c H locs cells slots Q (F0 m (pc + 3) ls (.ref (za G 27) :: rest))) : W p l e R s m args below meth c H locs cells slots Q (F0 m pc ls (.ref (za G 0) :: rest)) := z_get hx hb hC hI (oX6 G) rfl iX6 7 (by decide) rfl rfl hl hdg kk
theorem gX6_8 (hx : p.tables.exec = Jvm.exec) (hb : c.code = cc) (hC : zC WF G own args s m) (hI : zI WF G s σ H locs) (hl : Cond.fieldLink own index "FlowFold" "draft" "LFlowFold$Jumps;" ∈ AW) (hdg : decode cc pc = .ok (.getfield index, 3)) (kk : W p l e R s m args below meth c H locs cells slots Q (F0 m (pc + 3) ls (.ref (za G 31) :: rest))) : W p l e R s m args below meth c H locs cells slots Q (F0 m pc ls (.ref (za G 0) :: rest)) := z_get hx hb hC hI (oX6 G) rfl iX6 8 (by decide) rfl rfl hl hdg kk
theorem gX6_9 (hx : p.tables.exec = Jvm.exec) (hb : c.code = cc) (hC : zC WF G own args s m) (hI : zI WF G s σ H locs) (hl : Cond.fieldLink own index "FlowFold" "trial" "LFlowFold$Flow;" ∈ AW) (hdg : decode cc pc = .ok (.getfield index, 3)) (kk : W p l e R s m args below meth c H locs cells slots Q (F0 m (pc + 3) ls (.ref (za G 35) :: rest))) : W p l e R s m args below meth c H locs cells slots Q (F0 m pc ls (.ref (za G 0) :: rest)) := z_get hx hb hC hI (oX6 G) rfl iX6 9 (by decide) rfl rfl hl hdg kk
theorem gX6_10 (hx : p.tables.exec = Jvm.exec) (hb : c.code = cc) (hC : zC WF G own args s m) (hI : zI WF G s σ H locs) (hl : Cond.fieldLink own index "FlowFold" "kept" "Z" ∈ AW) (hdg : decode cc pc = .ok (.getfield index, 3)) (kk : W p l e R s m args below meth c H locs cells slots Q (F0 m (pc + 3) ls (.int (σ 0 10) :: rest))) : W p l e R s m args below meth c H locs cells slots Q (F0 m pc ls (.ref (za G 0) :: rest)) := z_get hx hb hC hI (oX6 G) rfl iX6 10 (by decide) rfl rfl hl hdg kk
theorem pX6_10 (hx : p.tables.exec = Jvm.exec) (hb : c.code = cc) (hC : zC WF G own args s m) (hI : zI WF G s σ H locs) {v : Int32} (hn : narrow .boolean (.int v) = .int v) (hft : fits .boolean (.int v) = true) (hl : Cond.fieldLink own index "FlowFold" "kept" "Z" ∈ AW) (hdg : decode cc pc = .ok (.putfield index, 3)) (kk : ∀ (σ1 : SF) (H1 : Heap) (locs1 : List Loc), σ1 = zst σ 0 10 v → zI WF G s σ1 H1 locs1 → W p l e R s m args below meth c H1 locs1 cells slots Q (F0 m (pc + 3) ls rest)) : W p l e R s m args below meth c H locs cells slots Q (F0 m pc ls (.int v :: .ref (za G 0) :: rest)) := z_put hx hb hC hI (oX6 G) rfl iX6 tyX6 tyX6_ok nmX6 10 (by decide) rfl rfl (ty := .boolean) (by decide +kernel) hn hft (Nat.le_of_ble_eq_true rfl) rfl hl hdg kk
theorem gX6_11 (hx : p.tables.exec = Jvm.exec) (hb : c.code = cc) (hC : zC WF G own args s m) (hI : zI WF G s σ H locs) (hl : Cond.fieldLink own index "FlowFold" "timesRead" "I" ∈ AW) (hdg : decode cc pc = .ok (.getfield index, 3)) (kk : W p l e R s m args below meth c H locs cells slots Q (F0 m (pc + 3) ls (.int (σ 0 11) :: rest))) : W p l e R s m args below meth c H locs cells slots Q (F0 m pc ls (.ref (za G 0) :: rest)) := z_get hx hb hC hI (oX6 G) rfl iX6 11 (by decide) rfl rfl hl hdg kk
theorem pX6_11 (hx : p.tables.exec = Jvm.exec) (hb : c.code = cc) (hC : zC WF G own args s m) (hI : zI WF G s σ H locs) {v : Int32} (hl : Cond.fieldLink own index "FlowFold" "timesRead" "I" ∈ AW) (hdg : decode cc pc = .ok (.putfield index, 3)) (kk : ∀ (σ1 : SF) (H1 : Heap) (locs1 : List Loc), σ1 = zst σ 0 11 v → zI WF G s σ1 H1 locs1 → W p l e R s m args below meth c H1 locs1 cells slots Q (F0 m (pc + 3) ls rest)) : W p l e R s m args below meth c H locs cells slots Q (F0 m pc ls (.int v :: .ref (za G 0) :: rest)) := z_put hx hb hC hI (oX6 G) rfl iX6 tyX6 tyX6_ok nmX6 11 (by decide) rfl rfl (ty := .int) (by decide +kernel) rfl rfl (Nat.le_of_ble_eq_true rfl) rfl hl hdg kk
theorem gX6_12 (hx : p.tables.exec = Jvm.exec) (hb : c.code = cc) (hC : zC WF G own args s m) (hI : zI WF G s σ H locs) (hl : Cond.fieldLink own index "FlowFold" "timesMended" "I" ∈ AW) (hdg : decode cc pc = .ok (.getfield index, 3)) (kk : W p l e R s m args below meth c H locs cells slots Q (F0 m (pc + 3) ls (.int (σ 0 12) :: rest))) : W p l e R s m args below meth c H locs cells slots Q (F0 m pc ls (.ref (za G 0) :: rest)) := z_get hx hb hC hI (oX6 G) rfl iX6 12 (by decide) rfl rfl hl hdg kk
theorem pX6_12 (hx : p.tables.exec = Jvm.exec) (hb : c.code = cc) (hC : zC WF G own args s m) (hI : zI WF G s σ H locs) {v : Int32} (hl : Cond.fieldLink own index "FlowFold" "timesMended" "I" ∈ AW) (hdg : decode cc pc = .ok (.putfield index, 3)) (kk : ∀ (σ1 : SF) (H1 : Heap) (locs1 : List Loc), σ1 = zst σ 0 12 v → zI WF G s σ1 H1 locs1 → W p l e R s m args below meth c H1 locs1 cells slots Q (F0 m (pc + 3) ls rest)) : W p l e R s m args below meth c H locs cells slots Q (F0 m pc ls (.int v :: .ref (za G 0) :: rest)) := z_put hx hb hC hI (oX6 G) rfl iX6 tyX6 tyX6_ok nmX6 12 (by decide) rfl rfl (ty := .int) (by decide +kernel) rfl rfl (Nat.le_of_ble_eq_true rfl) rfl hl hdg kk
theorem gX7_0 (hx : p.tables.exec = Jvm.exec) (hb : c.code = cc) (hC : zC WM G own args s m) (hI : zI WM G s σ H locs) (hl : Cond.fieldLink own index "FlowFoldModel" "graphs" "I" ∈ AW) (hdg : decode cc pc = .ok (.getfield index, 3)) (kk : W p l e R s m args below meth c H locs cells slots Q (F0 m (pc + 3) ls (.int (σ 0 0) :: rest))) : W p l e R s m args below meth c H locs cells slots Q (F0 m pc ls (.ref (za G 0) :: rest)) := z_get hx hb hC hI (oX7 G) rfl iX7 0 (by decide) rfl rfl hl hdg kk
theorem pX7_0 (hx : p.tables.exec = Jvm.exec) (hb : c.code = cc) (hC : zC WM G own args s m) (hI : zI WM G s σ H locs) {v : Int32} (hl : Cond.fieldLink own index "FlowFoldModel" "graphs" "I" ∈ AW) (hdg : decode cc pc = .ok (.putfield index, 3)) (kk : ∀ (σ1 : SF) (H1 : Heap) (locs1 : List Loc), σ1 = zst σ 0 0 v → zI WM G s σ1 H1 locs1 → W p l e R s m args below meth c H1 locs1 cells slots Q (F0 m (pc + 3) ls rest)) : W p l e R s m args below meth c H locs cells slots Q (F0 m pc ls (.int v :: .ref (za G 0) :: rest)) := z_put hx hb hC hI (oX7 G) rfl iX7 tyX7 tyX7_ok nmX7 0 (by decide) rfl rfl (ty := .int) (by decide +kernel) rfl rfl (Nat.le_of_ble_eq_true rfl) rfl hl hdg kk
theorem gX7_1 (hx : p.tables.exec = Jvm.exec) (hb : c.code = cc) (hC : zC WM G own args s m) (hI : zI WM G s σ H locs) (hl : Cond.fieldLink own index "FlowFoldModel" "nodes" "I" ∈ AW) (hdg : decode cc pc = .ok (.getfield index, 3)) (kk : W p l e R s m args below meth c H locs cells slots Q (F0 m (pc + 3) ls (.int (σ 0 1) :: rest))) : W p l e R s m args below meth c H locs cells slots Q (F0 m pc ls (.ref (za G 0) :: rest)) := z_get hx hb hC hI (oX7 G) rfl iX7 1 (by decide) rfl rfl hl hdg kk
theorem pX7_1 (hx : p.tables.exec = Jvm.exec) (hb : c.code = cc) (hC : zC WM G own args s m) (hI : zI WM G s σ H locs) {v : Int32} (hl : Cond.fieldLink own index "FlowFoldModel" "nodes" "I" ∈ AW) (hdg : decode cc pc = .ok (.putfield index, 3)) (kk : ∀ (σ1 : SF) (H1 : Heap) (locs1 : List Loc), σ1 = zst σ 0 1 v → zI WM G s σ1 H1 locs1 → W p l e R s m args below meth c H1 locs1 cells slots Q (F0 m (pc + 3) ls rest)) : W p l e R s m args below meth c H locs cells slots Q (F0 m pc ls (.int v :: .ref (za G 0) :: rest)) := z_put hx hb hC hI (oX7 G) rfl iX7 tyX7 tyX7_ok nmX7 1 (by decide) rfl rfl (ty := .int) (by decide +kernel) rfl rfl (Nat.le_of_ble_eq_true rfl) rfl hl hdg kk
theorem gX7_2 (hx : p.tables.exec = Jvm.exec) (hb : c.code = cc) (hC : zC WM G own args s m) (hI : zI WM G s σ H locs) (hl : Cond.fieldLink own index "FlowFoldModel" "kindOf" "[I" ∈ AW) (hdg : decode cc pc = .ok (.getfield index, 3)) (kk : W p l e R s m args below meth c H locs cells slots Q (F0 m (pc + 3) ls (.ref (za G 1) :: rest))) : W p l e R s m args below meth c H locs cells slots Q (F0 m pc ls (.ref (za G 0) :: rest)) := z_get hx hb hC hI (oX7 G) rfl iX7 2 (by decide) rfl rfl hl hdg kk
theorem gX7_3 (hx : p.tables.exec = Jvm.exec) (hb : c.code = cc) (hC : zC WM G own args s m) (hI : zI WM G s σ H locs) (hl : Cond.fieldLink own index "FlowFoldModel" "to" "[I" ∈ AW) (hdg : decode cc pc = .ok (.getfield index, 3)) (kk : W p l e R s m args below meth c H locs cells slots Q (F0 m (pc + 3) ls (.ref (za G 2) :: rest))) : W p l e R s m args below meth c H locs cells slots Q (F0 m pc ls (.ref (za G 0) :: rest)) := z_get hx hb hC hI (oX7 G) rfl iX7 3 (by decide) rfl rfl hl hdg kk
theorem gX7_4 (hx : p.tables.exec = Jvm.exec) (hb : c.code = cc) (hC : zC WM G own args s m) (hI : zI WM G s σ H locs) (hl : Cond.fieldLink own index "FlowFoldModel" "visits" "I" ∈ AW) (hdg : decode cc pc = .ok (.getfield index, 3)) (kk : W p l e R s m args below meth c H locs cells slots Q (F0 m (pc + 3) ls (.int (σ 0 4) :: rest))) : W p l e R s m args below meth c H locs cells slots Q (F0 m pc ls (.ref (za G 0) :: rest)) := z_get hx hb hC hI (oX7 G) rfl iX7 4 (by decide) rfl rfl hl hdg kk
theorem pX7_4 (hx : p.tables.exec = Jvm.exec) (hb : c.code = cc) (hC : zC WM G own args s m) (hI : zI WM G s σ H locs) {v : Int32} (hl : Cond.fieldLink own index "FlowFoldModel" "visits" "I" ∈ AW) (hdg : decode cc pc = .ok (.putfield index, 3)) (kk : ∀ (σ1 : SF) (H1 : Heap) (locs1 : List Loc), σ1 = zst σ 0 4 v → zI WM G s σ1 H1 locs1 → W p l e R s m args below meth c H1 locs1 cells slots Q (F0 m (pc + 3) ls rest)) : W p l e R s m args below meth c H locs cells slots Q (F0 m pc ls (.int v :: .ref (za G 0) :: rest)) := z_put hx hb hC hI (oX7 G) rfl iX7 tyX7 tyX7_ok nmX7 4 (by decide) rfl rfl (ty := .int) (by decide +kernel) rfl rfl (Nat.le_of_ble_eq_true rfl) rfl hl hdg kk
theorem gX7_5 (hx : p.tables.exec = Jvm.exec) (hb : c.code = cc) (hC : zC WM G own args s m) (hI : zI WM G s σ H locs) (hl : Cond.fieldLink own index "FlowFoldModel" "visited" "[I" ∈ AW) (hdg : decode cc pc = .ok (.getfield index, 3)) (kk : W p l e R s m args below meth c H locs cells slots Q (F0 m (pc + 3) ls (.ref (za G 3) :: rest))) : W p l e R s m args below meth c H locs cells slots Q (F0 m pc ls (.ref (za G 0) :: rest)) := z_get hx hb hC hI (oX7 G) rfl iX7 5 (by decide) rfl rfl hl hdg kk
theorem gX7_6 (hx : p.tables.exec = Jvm.exec) (hb : c.code = cc) (hC : zC WM G own args s m) (hI : zI WM G s σ H locs) (hl : Cond.fieldLink own index "FlowFoldModel" "mends" "I" ∈ AW) (hdg : decode cc pc = .ok (.getfield index, 3)) (kk : W p l e R s m args below meth c H locs cells slots Q (F0 m (pc + 3) ls (.int (σ 0 6) :: rest))) : W p l e R s m args below meth c H locs cells slots Q (F0 m pc ls (.ref (za G 0) :: rest)) := z_get hx hb hC hI (oX7 G) rfl iX7 6 (by decide) rfl rfl hl hdg kk
theorem pX7_6 (hx : p.tables.exec = Jvm.exec) (hb : c.code = cc) (hC : zC WM G own args s m) (hI : zI WM G s σ H locs) {v : Int32} (hl : Cond.fieldLink own index "FlowFoldModel" "mends" "I" ∈ AW) (hdg : decode cc pc = .ok (.putfield index, 3)) (kk : ∀ (σ1 : SF) (H1 : Heap) (locs1 : List Loc), σ1 = zst σ 0 6 v → zI WM G s σ1 H1 locs1 → W p l e R s m args below meth c H1 locs1 cells slots Q (F0 m (pc + 3) ls rest)) : W p l e R s m args below meth c H locs cells slots Q (F0 m pc ls (.int v :: .ref (za G 0) :: rest)) := z_put hx hb hC hI (oX7 G) rfl iX7 tyX7 tyX7_ok nmX7 6 (by decide) rfl rfl (ty := .int) (by decide +kernel) rfl rfl (Nat.le_of_ble_eq_true rfl) rfl hl hdg kk
theorem gX7_7 (hx : p.tables.exec = Jvm.exec) (hb : c.code = cc) (hC : zC WM G own args s m) (hI : zI WM G s σ H locs) (hl : Cond.fieldLink own index "FlowFoldModel" "seen" "I" ∈ AW) (hdg : decode cc pc = .ok (.getfield index, 3)) (kk : W p l e R s m args below meth c H locs cells slots Q (F0 m (pc + 3) ls (.int (σ 0 7) :: rest))) : W p l e R s m args below meth c H locs cells slots Q (F0 m pc ls (.ref (za G 0) :: rest)) := z_get hx hb hC hI (oX7 G) rfl iX7 7 (by decide) rfl rfl hl hdg kk
theorem pX7_7 (hx : p.tables.exec = Jvm.exec) (hb : c.code = cc) (hC : zC WM G own args s m) (hI : zI WM G s σ H locs) {v : Int32} (hl : Cond.fieldLink own index "FlowFoldModel" "seen" "I" ∈ AW) (hdg : decode cc pc = .ok (.putfield index, 3)) (kk : ∀ (σ1 : SF) (H1 : Heap) (locs1 : List Loc), σ1 = zst σ 0 7 v → zI WM G s σ1 H1 locs1 → W p l e R s m args below meth c H1 locs1 cells slots Q (F0 m (pc + 3) ls rest)) : W p l e R s m args below meth c H locs cells slots Q (F0 m pc ls (.int v :: .ref (za G 0) :: rest)) := z_put hx hb hC hI (oX7 G) rfl iX7 tyX7 tyX7_ok nmX7 7 (by decide) rfl rfl (ty := .int) (by decide +kernel) rfl rfl (Nat.le_of_ble_eq_true rfl) rfl hl hdg kk
theorem gX7_8 (hx : p.tables.exec = Jvm.exec) (hb : c.code = cc) (hC : zC WM G own args s m) (hI : zI WM G s σ H locs) (hl : Cond.fieldLink own index "FlowFoldModel" "seenNode" "[I" ∈ AW) (hdg : decode cc pc = .ok (.getfield index, 3)) (kk : W p l e R s m args below meth c H locs cells slots Q (F0 m (pc + 3) ls (.ref (za G 4) :: rest))) : W p l e R s m args below meth c H locs cells slots Q (F0 m pc ls (.ref (za G 0) :: rest)) := z_get hx hb hC hI (oX7 G) rfl iX7 8 (by decide) rfl rfl hl hdg kk
theorem gX7_9 (hx : p.tables.exec = Jvm.exec) (hb : c.code = cc) (hC : zC WM G own args s m) (hI : zI WM G s σ H locs) (hl : Cond.fieldLink own index "FlowFoldModel" "seenVisit" "[I" ∈ AW) (hdg : decode cc pc = .ok (.getfield index, 3)) (kk : W p l e R s m args below meth c H locs cells slots Q (F0 m (pc + 3) ls (.ref (za G 5) :: rest))) : W p l e R s m args below meth c H locs cells slots Q (F0 m pc ls (.ref (za G 0) :: rest)) := z_get hx hb hC hI (oX7 G) rfl iX7 9 (by decide) rfl rfl hl hdg kk
theorem gX7_10 (hx : p.tables.exec = Jvm.exec) (hb : c.code = cc) (hC : zC WM G own args s m) (hI : zI WM G s σ H locs) (hl : Cond.fieldLink own index "FlowFoldModel" "seenDid" "[I" ∈ AW) (hdg : decode cc pc = .ok (.getfield index, 3)) (kk : W p l e R s m args below meth c H locs cells slots Q (F0 m (pc + 3) ls (.ref (za G 6) :: rest))) : W p l e R s m args below meth c H locs cells slots Q (F0 m pc ls (.ref (za G 0) :: rest)) := z_get hx hb hC hI (oX7 G) rfl iX7 10 (by decide) rfl rfl hl hdg kk
theorem gX7_11 (hx : p.tables.exec = Jvm.exec) (hb : c.code = cc) (hC : zC WM G own args s m) (hI : zI WM G s σ H locs) (hl : Cond.fieldLink own index "FlowFoldModel" "pageLength" "I" ∈ AW) (hdg : decode cc pc = .ok (.getfield index, 3)) (kk : W p l e R s m args below meth c H locs cells slots Q (F0 m (pc + 3) ls (.int (σ 0 11) :: rest))) : W p l e R s m args below meth c H locs cells slots Q (F0 m pc ls (.ref (za G 0) :: rest)) := z_get hx hb hC hI (oX7 G) rfl iX7 11 (by decide) rfl rfl hl hdg kk
theorem pX7_11 (hx : p.tables.exec = Jvm.exec) (hb : c.code = cc) (hC : zC WM G own args s m) (hI : zI WM G s σ H locs) {v : Int32} (hl : Cond.fieldLink own index "FlowFoldModel" "pageLength" "I" ∈ AW) (hdg : decode cc pc = .ok (.putfield index, 3)) (kk : ∀ (σ1 : SF) (H1 : Heap) (locs1 : List Loc), σ1 = zst σ 0 11 v → zI WM G s σ1 H1 locs1 → W p l e R s m args below meth c H1 locs1 cells slots Q (F0 m (pc + 3) ls rest)) : W p l e R s m args below meth c H locs cells slots Q (F0 m pc ls (.int v :: .ref (za G 0) :: rest)) := z_put hx hb hC hI (oX7 G) rfl iX7 tyX7 tyX7_ok nmX7 11 (by decide) rfl rfl (ty := .int) (by decide +kernel) rfl rfl (Nat.le_of_ble_eq_true rfl) rfl hl hdg kk
theorem gX7_12 (hx : p.tables.exec = Jvm.exec) (hb : c.code = cc) (hC : zC WM G own args s m) (hI : zI WM G s σ H locs) (hl : Cond.fieldLink own index "FlowFoldModel" "page" "[B" ∈ AW) (hdg : decode cc pc = .ok (.getfield index, 3)) (kk : W p l e R s m args below meth c H locs cells slots Q (F0 m (pc + 3) ls (.ref (za G 7) :: rest))) : W p l e R s m args below meth c H locs cells slots Q (F0 m pc ls (.ref (za G 0) :: rest)) := z_get hx hb hC hI (oX7 G) rfl iX7 12 (by decide) rfl rfl hl hdg kk
theorem gX7_13 (hx : p.tables.exec = Jvm.exec) (hb : c.code = cc) (hC : zC WM G own args s m) (hI : zI WM G s σ H locs) (hl : Cond.fieldLink own index "FlowFoldModel" "isWhole" "Z" ∈ AW) (hdg : decode cc pc = .ok (.getfield index, 3)) (kk : W p l e R s m args below meth c H locs cells slots Q (F0 m (pc + 3) ls (.int (σ 0 13) :: rest))) : W p l e R s m args below meth c H locs cells slots Q (F0 m pc ls (.ref (za G 0) :: rest)) := z_get hx hb hC hI (oX7 G) rfl iX7 13 (by decide) rfl rfl hl hdg kk
theorem pX7_13 (hx : p.tables.exec = Jvm.exec) (hb : c.code = cc) (hC : zC WM G own args s m) (hI : zI WM G s σ H locs) {v : Int32} (hn : narrow .boolean (.int v) = .int v) (hft : fits .boolean (.int v) = true) (hl : Cond.fieldLink own index "FlowFoldModel" "isWhole" "Z" ∈ AW) (hdg : decode cc pc = .ok (.putfield index, 3)) (kk : ∀ (σ1 : SF) (H1 : Heap) (locs1 : List Loc), σ1 = zst σ 0 13 v → zI WM G s σ1 H1 locs1 → W p l e R s m args below meth c H1 locs1 cells slots Q (F0 m (pc + 3) ls rest)) : W p l e R s m args below meth c H locs cells slots Q (F0 m pc ls (.int v :: .ref (za G 0) :: rest)) := z_put hx hb hC hI (oX7 G) rfl iX7 tyX7 tyX7_ok nmX7 13 (by decide) rfl rfl (ty := .boolean) (by decide +kernel) hn hft (Nat.le_of_ble_eq_true rfl) rfl hl hdg kk
theorem gX7_14 (hx : p.tables.exec = Jvm.exec) (hb : c.code = cc) (hC : zC WM G own args s m) (hI : zI WM G s σ H locs) (hl : Cond.fieldLink own index "FlowFoldModel" "newNodes" "I" ∈ AW) (hdg : decode cc pc = .ok (.getfield index, 3)) (kk : W p l e R s m args below meth c H locs cells slots Q (F0 m (pc + 3) ls (.int (σ 0 14) :: rest))) : W p l e R s m args below meth c H locs cells slots Q (F0 m pc ls (.ref (za G 0) :: rest)) := z_get hx hb hC hI (oX7 G) rfl iX7 14 (by decide) rfl rfl hl hdg kk
theorem pX7_14 (hx : p.tables.exec = Jvm.exec) (hb : c.code = cc) (hC : zC WM G own args s m) (hI : zI WM G s σ H locs) {v : Int32} (hl : Cond.fieldLink own index "FlowFoldModel" "newNodes" "I" ∈ AW) (hdg : decode cc pc = .ok (.putfield index, 3)) (kk : ∀ (σ1 : SF) (H1 : Heap) (locs1 : List Loc), σ1 = zst σ 0 14 v → zI WM G s σ1 H1 locs1 → W p l e R s m args below meth c H1 locs1 cells slots Q (F0 m (pc + 3) ls rest)) : W p l e R s m args below meth c H locs cells slots Q (F0 m pc ls (.int v :: .ref (za G 0) :: rest)) := z_put hx hb hC hI (oX7 G) rfl iX7 tyX7 tyX7_ok nmX7 14 (by decide) rfl rfl (ty := .int) (by decide +kernel) rfl rfl (Nat.le_of_ble_eq_true rfl) rfl hl hdg kk
theorem gX7_15 (hx : p.tables.exec = Jvm.exec) (hb : c.code = cc) (hC : zC WM G own args s m) (hI : zI WM G s σ H locs) (hl : Cond.fieldLink own index "FlowFoldModel" "most" "I" ∈ AW) (hdg : decode cc pc = .ok (.getfield index, 3)) (kk : W p l e R s m args below meth c H locs cells slots Q (F0 m (pc + 3) ls (.int (σ 0 15) :: rest))) : W p l e R s m args below meth c H locs cells slots Q (F0 m pc ls (.ref (za G 0) :: rest)) := z_get hx hb hC hI (oX7 G) rfl iX7 15 (by decide) rfl rfl hl hdg kk
theorem pX7_15 (hx : p.tables.exec = Jvm.exec) (hb : c.code = cc) (hC : zC WM G own args s m) (hI : zI WM G s σ H locs) {v : Int32} (hl : Cond.fieldLink own index "FlowFoldModel" "most" "I" ∈ AW) (hdg : decode cc pc = .ok (.putfield index, 3)) (kk : ∀ (σ1 : SF) (H1 : Heap) (locs1 : List Loc), σ1 = zst σ 0 15 v → zI WM G s σ1 H1 locs1 → W p l e R s m args below meth c H1 locs1 cells slots Q (F0 m (pc + 3) ls rest)) : W p l e R s m args below meth c H locs cells slots Q (F0 m pc ls (.int v :: .ref (za G 0) :: rest)) := z_put hx hb hC hI (oX7 G) rfl iX7 tyX7 tyX7_ok nmX7 15 (by decide) rfl rfl (ty := .int) (by decide +kernel) rfl rfl (Nat.le_of_ble_eq_true rfl) rfl hl hdg kk
theorem gX7_16 (hx : p.tables.exec = Jvm.exec) (hb : c.code = cc) (hC : zC WM G own args s m) (hI : zI WM G s σ H locs) (hl : Cond.fieldLink own index "FlowFoldModel" "newKind" "[I" ∈ AW) (hdg : decode cc pc = .ok (.getfield index, 3)) (kk : W p l e R s m args below meth c H locs cells slots Q (F0 m (pc + 3) ls (.ref (za G 8) :: rest))) : W p l e R s m args below meth c H locs cells slots Q (F0 m pc ls (.ref (za G 0) :: rest)) := z_get hx hb hC hI (oX7 G) rfl iX7 16 (by decide) rfl rfl hl hdg kk
theorem gX7_17 (hx : p.tables.exec = Jvm.exec) (hb : c.code = cc) (hC : zC WM G own args s m) (hI : zI WM G s σ H locs) (hl : Cond.fieldLink own index "FlowFoldModel" "newTo" "[I" ∈ AW) (hdg : decode cc pc = .ok (.getfield index, 3)) (kk : W p l e R s m args below meth c H locs cells slots Q (F0 m (pc + 3) ls (.ref (za G 9) :: rest))) : W p l e R s m args below meth c H locs cells slots Q (F0 m pc ls (.ref (za G 0) :: rest)) := z_get hx hb hC hI (oX7 G) rfl iX7 17 (by decide) rfl rfl hl hdg kk
theorem gX7_18 (hx : p.tables.exec = Jvm.exec) (hb : c.code = cc) (hC : zC WM G own args s m) (hI : zI WM G s σ H locs) (hl : Cond.fieldLink own index "FlowFoldModel" "many" "I" ∈ AW) (hdg : decode cc pc = .ok (.getfield index, 3)) (kk : W p l e R s m args below meth c H locs cells slots Q (F0 m (pc + 3) ls (.int (σ 0 18) :: rest))) : W p l e R s m args below meth c H locs cells slots Q (F0 m pc ls (.ref (za G 0) :: rest)) := z_get hx hb hC hI (oX7 G) rfl iX7 18 (by decide) rfl rfl hl hdg kk
theorem pX7_18 (hx : p.tables.exec = Jvm.exec) (hb : c.code = cc) (hC : zC WM G own args s m) (hI : zI WM G s σ H locs) {v : Int32} (hl : Cond.fieldLink own index "FlowFoldModel" "many" "I" ∈ AW) (hdg : decode cc pc = .ok (.putfield index, 3)) (kk : ∀ (σ1 : SF) (H1 : Heap) (locs1 : List Loc), σ1 = zst σ 0 18 v → zI WM G s σ1 H1 locs1 → W p l e R s m args below meth c H1 locs1 cells slots Q (F0 m (pc + 3) ls rest)) : W p l e R s m args below meth c H locs cells slots Q (F0 m pc ls (.int v :: .ref (za G 0) :: rest)) := z_put hx hb hC hI (oX7 G) rfl iX7 tyX7 tyX7_ok nmX7 18 (by decide) rfl rfl (ty := .int) (by decide +kernel) rfl rfl (Nat.le_of_ble_eq_true rfl) rfl hl hdg kk
theorem gX7_19 (hx : p.tables.exec = Jvm.exec) (hb : c.code = cc) (hC : zC WM G own args s m) (hI : zI WM G s σ H locs) (hl : Cond.fieldLink own index "FlowFoldModel" "gone" "I" ∈ AW) (hdg : decode cc pc = .ok (.getfield index, 3)) (kk : W p l e R s m args below meth c H locs cells slots Q (F0 m (pc + 3) ls (.int (σ 0 19) :: rest))) : W p l e R s m args below meth c H locs cells slots Q (F0 m pc ls (.ref (za G 0) :: rest)) := z_get hx hb hC hI (oX7 G) rfl iX7 19 (by decide) rfl rfl hl hdg kk
theorem pX7_19 (hx : p.tables.exec = Jvm.exec) (hb : c.code = cc) (hC : zC WM G own args s m) (hI : zI WM G s σ H locs) {v : Int32} (hl : Cond.fieldLink own index "FlowFoldModel" "gone" "I" ∈ AW) (hdg : decode cc pc = .ok (.putfield index, 3)) (kk : ∀ (σ1 : SF) (H1 : Heap) (locs1 : List Loc), σ1 = zst σ 0 19 v → zI WM G s σ1 H1 locs1 → W p l e R s m args below meth c H1 locs1 cells slots Q (F0 m (pc + 3) ls rest)) : W p l e R s m args below meth c H locs cells slots Q (F0 m pc ls (.int v :: .ref (za G 0) :: rest)) := z_put hx hb hC hI (oX7 G) rfl iX7 tyX7 tyX7_ok nmX7 19 (by decide) rfl rfl (ty := .int) (by decide +kernel) rfl rfl (Nat.le_of_ble_eq_true rfl) rfl hl hdg kk
theorem gX7_20 (hx : p.tables.exec = Jvm.exec) (hb : c.code = cc) (hC : zC WM G own args s m) (hI : zI WM G s σ H locs) (hl : Cond.fieldLink own index "FlowFoldModel" "kindNow" "[I" ∈ AW) (hdg : decode cc pc = .ok (.getfield index, 3)) (kk : W p l e R s m args below meth c H locs cells slots Q (F0 m (pc + 3) ls (.ref (za G 10) :: rest))) : W p l e R s m args below meth c H locs cells slots Q (F0 m pc ls (.ref (za G 0) :: rest)) := z_get hx hb hC hI (oX7 G) rfl iX7 20 (by decide) rfl rfl hl hdg kk
theorem gX7_21 (hx : p.tables.exec = Jvm.exec) (hb : c.code = cc) (hC : zC WM G own args s m) (hI : zI WM G s σ H locs) (hl : Cond.fieldLink own index "FlowFoldModel" "toNow" "[I" ∈ AW) (hdg : decode cc pc = .ok (.getfield index, 3)) (kk : W p l e R s m args below meth c H locs cells slots Q (F0 m (pc + 3) ls (.ref (za G 11) :: rest))) : W p l e R s m args below meth c H locs cells slots Q (F0 m pc ls (.ref (za G 0) :: rest)) := z_get hx hb hC hI (oX7 G) rfl iX7 21 (by decide) rfl rfl hl hdg kk
theorem gX7_22 (hx : p.tables.exec = Jvm.exec) (hb : c.code = cc) (hC : zC WM G own args s m) (hI : zI WM G s σ H locs) (hl : Cond.fieldLink own index "FlowFoldModel" "reached" "I" ∈ AW) (hdg : decode cc pc = .ok (.getfield index, 3)) (kk : W p l e R s m args below meth c H locs cells slots Q (F0 m (pc + 3) ls (.int (σ 0 22) :: rest))) : W p l e R s m args below meth c H locs cells slots Q (F0 m pc ls (.ref (za G 0) :: rest)) := z_get hx hb hC hI (oX7 G) rfl iX7 22 (by decide) rfl rfl hl hdg kk
theorem pX7_22 (hx : p.tables.exec = Jvm.exec) (hb : c.code = cc) (hC : zC WM G own args s m) (hI : zI WM G s σ H locs) {v : Int32} (hl : Cond.fieldLink own index "FlowFoldModel" "reached" "I" ∈ AW) (hdg : decode cc pc = .ok (.putfield index, 3)) (kk : ∀ (σ1 : SF) (H1 : Heap) (locs1 : List Loc), σ1 = zst σ 0 22 v → zI WM G s σ1 H1 locs1 → W p l e R s m args below meth c H1 locs1 cells slots Q (F0 m (pc + 3) ls rest)) : W p l e R s m args below meth c H locs cells slots Q (F0 m pc ls (.int v :: .ref (za G 0) :: rest)) := z_put hx hb hC hI (oX7 G) rfl iX7 tyX7 tyX7_ok nmX7 22 (by decide) rfl rfl (ty := .int) (by decide +kernel) rfl rfl (Nat.le_of_ble_eq_true rfl) rfl hl hdg kk
theorem gX7_23 (hx : p.tables.exec = Jvm.exec) (hb : c.code = cc) (hC : zC WM G own args s m) (hI : zI WM G s σ H locs) (hl : Cond.fieldLink own index "FlowFoldModel" "reachedMany" "I" ∈ AW) (hdg : decode cc pc = .ok (.getfield index, 3)) (kk : W p l e R s m args below meth c H locs cells slots Q (F0 m (pc + 3) ls (.int (σ 0 23) :: rest))) : W p l e R s m args below meth c H locs cells slots Q (F0 m pc ls (.ref (za G 0) :: rest)) := z_get hx hb hC hI (oX7 G) rfl iX7 23 (by decide) rfl rfl hl hdg kk
theorem pX7_23 (hx : p.tables.exec = Jvm.exec) (hb : c.code = cc) (hC : zC WM G own args s m) (hI : zI WM G s σ H locs) {v : Int32} (hl : Cond.fieldLink own index "FlowFoldModel" "reachedMany" "I" ∈ AW) (hdg : decode cc pc = .ok (.putfield index, 3)) (kk : ∀ (σ1 : SF) (H1 : Heap) (locs1 : List Loc), σ1 = zst σ 0 23 v → zI WM G s σ1 H1 locs1 → W p l e R s m args below meth c H1 locs1 cells slots Q (F0 m (pc + 3) ls rest)) : W p l e R s m args below meth c H locs cells slots Q (F0 m pc ls (.int v :: .ref (za G 0) :: rest)) := z_put hx hb hC hI (oX7 G) rfl iX7 tyX7 tyX7_ok nmX7 23 (by decide) rfl rfl (ty := .int) (by decide +kernel) rfl rfl (Nat.le_of_ble_eq_true rfl) rfl hl hdg kk
theorem gX7_24 (hx : p.tables.exec = Jvm.exec) (hb : c.code = cc) (hC : zC WM G own args s m) (hI : zI WM G s σ H locs) (hl : Cond.fieldLink own index "FlowFoldModel" "order" "[I" ∈ AW) (hdg : decode cc pc = .ok (.getfield index, 3)) (kk : W p l e R s m args below meth c H locs cells slots Q (F0 m (pc + 3) ls (.ref (za G 12) :: rest))) : W p l e R s m args below meth c H locs cells slots Q (F0 m pc ls (.ref (za G 0) :: rest)) := z_get hx hb hC hI (oX7 G) rfl iX7 24 (by decide) rfl rfl hl hdg kk
theorem gX7_25 (hx : p.tables.exec = Jvm.exec) (hb : c.code = cc) (hC : zC WM G own args s m) (hI : zI WM G s σ H locs) (hl : Cond.fieldLink own index "FlowFoldModel" "placeOf" "[I" ∈ AW) (hdg : decode cc pc = .ok (.getfield index, 3)) (kk : W p l e R s m args below meth c H locs cells slots Q (F0 m (pc + 3) ls (.ref (za G 13) :: rest))) : W p l e R s m args below meth c H locs cells slots Q (F0 m pc ls (.ref (za G 0) :: rest)) := z_get hx hb hC hI (oX7 G) rfl iX7 25 (by decide) rfl rfl hl hdg kk
theorem gX7_26 (hx : p.tables.exec = Jvm.exec) (hb : c.code = cc) (hC : zC WM G own args s m) (hI : zI WM G s σ H locs) (hl : Cond.fieldLink own index "FlowFoldModel" "above" "[I" ∈ AW) (hdg : decode cc pc = .ok (.getfield index, 3)) (kk : W p l e R s m args below meth c H locs cells slots Q (F0 m (pc + 3) ls (.ref (za G 14) :: rest))) : W p l e R s m args below meth c H locs cells slots Q (F0 m pc ls (.ref (za G 0) :: rest)) := z_get hx hb hC hI (oX7 G) rfl iX7 26 (by decide) rfl rfl hl hdg kk
theorem gX7_27 (hx : p.tables.exec = Jvm.exec) (hb : c.code = cc) (hC : zC WM G own args s m) (hI : zI WM G s σ H locs) (hl : Cond.fieldLink own index "FlowFoldModel" "lord" "[I" ∈ AW) (hdg : decode cc pc = .ok (.getfield index, 3)) (kk : W p l e R s m args below meth c H locs cells slots Q (F0 m (pc + 3) ls (.ref (za G 15) :: rest))) : W p l e R s m args below meth c H locs cells slots Q (F0 m pc ls (.ref (za G 0) :: rest)) := z_get hx hb hC hI (oX7 G) rfl iX7 27 (by decide) rfl rfl hl hdg kk
theorem gX7_28 (hx : p.tables.exec = Jvm.exec) (hb : c.code = cc) (hC : zC WM G own args s m) (hI : zI WM G s σ H locs) (hl : Cond.fieldLink own index "FlowFoldModel" "edges" "I" ∈ AW) (hdg : decode cc pc = .ok (.getfield index, 3)) (kk : W p l e R s m args below meth c H locs cells slots Q (F0 m (pc + 3) ls (.int (σ 0 28) :: rest))) : W p l e R s m args below meth c H locs cells slots Q (F0 m pc ls (.ref (za G 0) :: rest)) := z_get hx hb hC hI (oX7 G) rfl iX7 28 (by decide) rfl rfl hl hdg kk
theorem pX7_28 (hx : p.tables.exec = Jvm.exec) (hb : c.code = cc) (hC : zC WM G own args s m) (hI : zI WM G s σ H locs) {v : Int32} (hl : Cond.fieldLink own index "FlowFoldModel" "edges" "I" ∈ AW) (hdg : decode cc pc = .ok (.putfield index, 3)) (kk : ∀ (σ1 : SF) (H1 : Heap) (locs1 : List Loc), σ1 = zst σ 0 28 v → zI WM G s σ1 H1 locs1 → W p l e R s m args below meth c H1 locs1 cells slots Q (F0 m (pc + 3) ls rest)) : W p l e R s m args below meth c H locs cells slots Q (F0 m pc ls (.int v :: .ref (za G 0) :: rest)) := z_put hx hb hC hI (oX7 G) rfl iX7 tyX7 tyX7_ok nmX7 28 (by decide) rfl rfl (ty := .int) (by decide +kernel) rfl rfl (Nat.le_of_ble_eq_true rfl) rfl hl hdg kk
theorem gX7_29 (hx : p.tables.exec = Jvm.exec) (hb : c.code = cc) (hC : zC WM G own args s m) (hI : zI WM G s σ H locs) (hl : Cond.fieldLink own index "FlowFoldModel" "backs" "I" ∈ AW) (hdg : decode cc pc = .ok (.getfield index, 3)) (kk : W p l e R s m args below meth c H locs cells slots Q (F0 m (pc + 3) ls (.int (σ 0 29) :: rest))) : W p l e R s m args below meth c H locs cells slots Q (F0 m pc ls (.ref (za G 0) :: rest)) := z_get hx hb hC hI (oX7 G) rfl iX7 29 (by decide) rfl rfl hl hdg kk
theorem pX7_29 (hx : p.tables.exec = Jvm.exec) (hb : c.code = cc) (hC : zC WM G own args s m) (hI : zI WM G s σ H locs) {v : Int32} (hl : Cond.fieldLink own index "FlowFoldModel" "backs" "I" ∈ AW) (hdg : decode cc pc = .ok (.putfield index, 3)) (kk : ∀ (σ1 : SF) (H1 : Heap) (locs1 : List Loc), σ1 = zst σ 0 29 v → zI WM G s σ1 H1 locs1 → W p l e R s m args below meth c H1 locs1 cells slots Q (F0 m (pc + 3) ls rest)) : W p l e R s m args below meth c H locs cells slots Q (F0 m pc ls (.int v :: .ref (za G 0) :: rest)) := z_put hx hb hC hI (oX7 G) rfl iX7 tyX7 tyX7_ok nmX7 29 (by decide) rfl rfl (ty := .int) (by decide +kernel) rfl rfl (Nat.le_of_ble_eq_true rfl) rfl hl hdg kk
theorem gX7_30 (hx : p.tables.exec = Jvm.exec) (hb : c.code = cc) (hC : zC WM G own args s m) (hI : zI WM G s σ H locs) (hl : Cond.fieldLink own index "FlowFoldModel" "bads" "I" ∈ AW) (hdg : decode cc pc = .ok (.getfield index, 3)) (kk : W p l e R s m args below meth c H locs cells slots Q (F0 m (pc + 3) ls (.int (σ 0 30) :: rest))) : W p l e R s m args below meth c H locs cells slots Q (F0 m pc ls (.ref (za G 0) :: rest)) := z_get hx hb hC hI (oX7 G) rfl iX7 30 (by decide) rfl rfl hl hdg kk
theorem pX7_30 (hx : p.tables.exec = Jvm.exec) (hb : c.code = cc) (hC : zC WM G own args s m) (hI : zI WM G s σ H locs) {v : Int32} (hl : Cond.fieldLink own index "FlowFoldModel" "bads" "I" ∈ AW) (hdg : decode cc pc = .ok (.putfield index, 3)) (kk : ∀ (σ1 : SF) (H1 : Heap) (locs1 : List Loc), σ1 = zst σ 0 30 v → zI WM G s σ1 H1 locs1 → W p l e R s m args below meth c H1 locs1 cells slots Q (F0 m (pc + 3) ls rest)) : W p l e R s m args below meth c H locs cells slots Q (F0 m pc ls (.int v :: .ref (za G 0) :: rest)) := z_put hx hb hC hI (oX7 G) rfl iX7 tyX7 tyX7_ok nmX7 30 (by decide) rfl rfl (ty := .int) (by decide +kernel) rfl rfl (Nat.le_of_ble_eq_true rfl) rfl hl hdg kk
theorem gX7_31 (hx : p.tables.exec = Jvm.exec) (hb : c.code = cc) (hC : zC WM G own args s m) (hI : zI WM G s σ H locs) (hl : Cond.fieldLink own index "FlowFoldModel" "heads" "I" ∈ AW) (hdg : decode cc pc = .ok (.getfield index, 3)) (kk : W p l e R s m args below meth c H locs cells slots Q (F0 m (pc + 3) ls (.int (σ 0 31) :: rest))) : W p l e R s m args below meth c H locs cells slots Q (F0 m pc ls (.ref (za G 0) :: rest)) := z_get hx hb hC hI (oX7 G) rfl iX7 31 (by decide) rfl rfl hl hdg kk
theorem pX7_31 (hx : p.tables.exec = Jvm.exec) (hb : c.code = cc) (hC : zC WM G own args s m) (hI : zI WM G s σ H locs) {v : Int32} (hl : Cond.fieldLink own index "FlowFoldModel" "heads" "I" ∈ AW) (hdg : decode cc pc = .ok (.putfield index, 3)) (kk : ∀ (σ1 : SF) (H1 : Heap) (locs1 : List Loc), σ1 = zst σ 0 31 v → zI WM G s σ1 H1 locs1 → W p l e R s m args below meth c H1 locs1 cells slots Q (F0 m (pc + 3) ls rest)) : W p l e R s m args below meth c H locs cells slots Q (F0 m pc ls (.int v :: .ref (za G 0) :: rest)) := z_put hx hb hC hI (oX7 G) rfl iX7 tyX7 tyX7_ok nmX7 31 (by decide) rfl rfl (ty := .int) (by decide +kernel) rfl rfl (Nat.le_of_ble_eq_true rfl) rfl hl hdg kk
theorem gX7_32 (hx : p.tables.exec = Jvm.exec) (hb : c.code = cc) (hC : zC WM G own args s m) (hI : zI WM G s σ H locs) (hl : Cond.fieldLink own index "FlowFoldModel" "merges" "I" ∈ AW) (hdg : decode cc pc = .ok (.getfield index, 3)) (kk : W p l e R s m args below meth c H locs cells slots Q (F0 m (pc + 3) ls (.int (σ 0 32) :: rest))) : W p l e R s m args below meth c H locs cells slots Q (F0 m pc ls (.ref (za G 0) :: rest)) := z_get hx hb hC hI (oX7 G) rfl iX7 32 (by decide) rfl rfl hl hdg kk
theorem pX7_32 (hx : p.tables.exec = Jvm.exec) (hb : c.code = cc) (hC : zC WM G own args s m) (hI : zI WM G s σ H locs) {v : Int32} (hl : Cond.fieldLink own index "FlowFoldModel" "merges" "I" ∈ AW) (hdg : decode cc pc = .ok (.putfield index, 3)) (kk : ∀ (σ1 : SF) (H1 : Heap) (locs1 : List Loc), σ1 = zst σ 0 32 v → zI WM G s σ1 H1 locs1 → W p l e R s m args below meth c H1 locs1 cells slots Q (F0 m (pc + 3) ls rest)) : W p l e R s m args below meth c H locs cells slots Q (F0 m pc ls (.int v :: .ref (za G 0) :: rest)) := z_put hx hb hC hI (oX7 G) rfl iX7 tyX7 tyX7_ok nmX7 32 (by decide) rfl rfl (ty := .int) (by decide +kernel) rfl rfl (Nat.le_of_ble_eq_true rfl) rfl hl hdg kk
theorem gX7_33 (hx : p.tables.exec = Jvm.exec) (hb : c.code = cc) (hC : zC WM G own args s m) (hI : zI WM G s σ H locs) (hl : Cond.fieldLink own index "FlowFoldModel" "begun" "[I" ∈ AW) (hdg : decode cc pc = .ok (.getfield index, 3)) (kk : W p l e R s m args below meth c H locs cells slots Q (F0 m (pc + 3) ls (.ref (za G 16) :: rest))) : W p l e R s m args below meth c H locs cells slots Q (F0 m pc ls (.ref (za G 0) :: rest)) := z_get hx hb hC hI (oX7 G) rfl iX7 33 (by decide) rfl rfl hl hdg kk
theorem gX7_34 (hx : p.tables.exec = Jvm.exec) (hb : c.code = cc) (hC : zC WM G own args s m) (hI : zI WM G s σ H locs) (hl : Cond.fieldLink own index "FlowFoldModel" "step" "[I" ∈ AW) (hdg : decode cc pc = .ok (.getfield index, 3)) (kk : W p l e R s m args below meth c H locs cells slots Q (F0 m (pc + 3) ls (.ref (za G 17) :: rest))) : W p l e R s m args below meth c H locs cells slots Q (F0 m pc ls (.ref (za G 0) :: rest)) := z_get hx hb hC hI (oX7 G) rfl iX7 34 (by decide) rfl rfl hl hdg kk
theorem gX7_35 (hx : p.tables.exec = Jvm.exec) (hb : c.code = cc) (hC : zC WM G own args s m) (hI : zI WM G s σ H locs) (hl : Cond.fieldLink own index "FlowFoldModel" "often" "[I" ∈ AW) (hdg : decode cc pc = .ok (.getfield index, 3)) (kk : W p l e R s m args below meth c H locs cells slots Q (F0 m (pc + 3) ls (.ref (za G 18) :: rest))) : W p l e R s m args below meth c H locs cells slots Q (F0 m pc ls (.ref (za G 0) :: rest)) := z_get hx hb hC hI (oX7 G) rfl iX7 35 (by decide) rfl rfl hl hdg kk
theorem gX7_36 (hx : p.tables.exec = Jvm.exec) (hb : c.code = cc) (hC : zC WM G own args s m) (hI : zI WM G s σ H locs) (hl : Cond.fieldLink own index "FlowFoldModel" "signs" "I" ∈ AW) (hdg : decode cc pc = .ok (.getfield index, 3)) (kk : W p l e R s m args below meth c H locs cells slots Q (F0 m (pc + 3) ls (.int (σ 0 36) :: rest))) : W p l e R s m args below meth c H locs cells slots Q (F0 m pc ls (.ref (za G 0) :: rest)) := z_get hx hb hC hI (oX7 G) rfl iX7 36 (by decide) rfl rfl hl hdg kk
theorem pX7_36 (hx : p.tables.exec = Jvm.exec) (hb : c.code = cc) (hC : zC WM G own args s m) (hI : zI WM G s σ H locs) {v : Int32} (hl : Cond.fieldLink own index "FlowFoldModel" "signs" "I" ∈ AW) (hdg : decode cc pc = .ok (.putfield index, 3)) (kk : ∀ (σ1 : SF) (H1 : Heap) (locs1 : List Loc), σ1 = zst σ 0 36 v → zI WM G s σ1 H1 locs1 → W p l e R s m args below meth c H1 locs1 cells slots Q (F0 m (pc + 3) ls rest)) : W p l e R s m args below meth c H locs cells slots Q (F0 m pc ls (.int v :: .ref (za G 0) :: rest)) := z_put hx hb hC hI (oX7 G) rfl iX7 tyX7 tyX7_ok nmX7 36 (by decide) rfl rfl (ty := .int) (by decide +kernel) rfl rfl (Nat.le_of_ble_eq_true rfl) rfl hl hdg kk
theorem gX7_37 (hx : p.tables.exec = Jvm.exec) (hb : c.code = cc) (hC : zC WM G own args s m) (hI : zI WM G s σ H locs) (hl : Cond.fieldLink own index "FlowFoldModel" "outs" "I" ∈ AW) (hdg : decode cc pc = .ok (.getfield index, 3)) (kk : W p l e R s m args below meth c H locs cells slots Q (F0 m (pc + 3) ls (.int (σ 0 37) :: rest))) : W p l e R s m args below meth c H locs cells slots Q (F0 m pc ls (.ref (za G 0) :: rest)) := z_get hx hb hC hI (oX7 G) rfl iX7 37 (by decide) rfl rfl hl hdg kk
theorem pX7_37 (hx : p.tables.exec = Jvm.exec) (hb : c.code = cc) (hC : zC WM G own args s m) (hI : zI WM G s σ H locs) {v : Int32} (hl : Cond.fieldLink own index "FlowFoldModel" "outs" "I" ∈ AW) (hdg : decode cc pc = .ok (.putfield index, 3)) (kk : ∀ (σ1 : SF) (H1 : Heap) (locs1 : List Loc), σ1 = zst σ 0 37 v → zI WM G s σ1 H1 locs1 → W p l e R s m args below meth c H1 locs1 cells slots Q (F0 m (pc + 3) ls rest)) : W p l e R s m args below meth c H locs cells slots Q (F0 m pc ls (.int v :: .ref (za G 0) :: rest)) := z_put hx hb hC hI (oX7 G) rfl iX7 tyX7 tyX7_ok nmX7 37 (by decide) rfl rfl (ty := .int) (by decide +kernel) rfl rfl (Nat.le_of_ble_eq_true rfl) rfl hl hdg kk
theorem gX7_38 (hx : p.tables.exec = Jvm.exec) (hb : c.code = cc) (hC : zC WM G own args s m) (hI : zI WM G s σ H locs) (hl : Cond.fieldLink own index "FlowFoldModel" "deeps" "I" ∈ AW) (hdg : decode cc pc = .ok (.getfield index, 3)) (kk : W p l e R s m args below meth c H locs cells slots Q (F0 m (pc + 3) ls (.int (σ 0 38) :: rest))) : W p l e R s m args below meth c H locs cells slots Q (F0 m pc ls (.ref (za G 0) :: rest)) := z_get hx hb hC hI (oX7 G) rfl iX7 38 (by decide) rfl rfl hl hdg kk
theorem pX7_38 (hx : p.tables.exec = Jvm.exec) (hb : c.code = cc) (hC : zC WM G own args s m) (hI : zI WM G s σ H locs) {v : Int32} (hl : Cond.fieldLink own index "FlowFoldModel" "deeps" "I" ∈ AW) (hdg : decode cc pc = .ok (.putfield index, 3)) (kk : ∀ (σ1 : SF) (H1 : Heap) (locs1 : List Loc), σ1 = zst σ 0 38 v → zI WM G s σ1 H1 locs1 → W p l e R s m args below meth c H1 locs1 cells slots Q (F0 m (pc + 3) ls rest)) : W p l e R s m args below meth c H locs cells slots Q (F0 m pc ls (.int v :: .ref (za G 0) :: rest)) := z_put hx hb hC hI (oX7 G) rfl iX7 tyX7 tyX7_ok nmX7 38 (by decide) rfl rfl (ty := .int) (by decide +kernel) rfl rfl (Nat.le_of_ble_eq_true rfl) rfl hl hdg kk
theorem gX7_39 (hx : p.tables.exec = Jvm.exec) (hb : c.code = cc) (hC : zC WM G own args s m) (hI : zI WM G s σ H locs) (hl : Cond.fieldLink own index "FlowFoldModel" "deepest" "I" ∈ AW) (hdg : decode cc pc = .ok (.getfield index, 3)) (kk : W p l e R s m args below meth c H locs cells slots Q (F0 m (pc + 3) ls (.int (σ 0 39) :: rest))) : W p l e R s m args below meth c H locs cells slots Q (F0 m pc ls (.ref (za G 0) :: rest)) := z_get hx hb hC hI (oX7 G) rfl iX7 39 (by decide) rfl rfl hl hdg kk
theorem pX7_39 (hx : p.tables.exec = Jvm.exec) (hb : c.code = cc) (hC : zC WM G own args s m) (hI : zI WM G s σ H locs) {v : Int32} (hl : Cond.fieldLink own index "FlowFoldModel" "deepest" "I" ∈ AW) (hdg : decode cc pc = .ok (.putfield index, 3)) (kk : ∀ (σ1 : SF) (H1 : Heap) (locs1 : List Loc), σ1 = zst σ 0 39 v → zI WM G s σ1 H1 locs1 → W p l e R s m args below meth c H1 locs1 cells slots Q (F0 m (pc + 3) ls rest)) : W p l e R s m args below meth c H locs cells slots Q (F0 m pc ls (.int v :: .ref (za G 0) :: rest)) := z_put hx hb hC hI (oX7 G) rfl iX7 tyX7 tyX7_ok nmX7 39 (by decide) rfl rfl (ty := .int) (by decide +kernel) rfl rfl (Nat.le_of_ble_eq_true rfl) rfl hl hdg kk
theorem gX7_40 (hx : p.tables.exec = Jvm.exec) (hb : c.code = cc) (hC : zC WM G own args s m) (hI : zI WM G s σ H locs) (hl : Cond.fieldLink own index "FlowFoldModel" "signOf" "[I" ∈ AW) (hdg : decode cc pc = .ok (.getfield index, 3)) (kk : W p l e R s m args below meth c H locs cells slots Q (F0 m (pc + 3) ls (.ref (za G 19) :: rest))) : W p l e R s m args below meth c H locs cells slots Q (F0 m pc ls (.ref (za G 0) :: rest)) := z_get hx hb hC hI (oX7 G) rfl iX7 40 (by decide) rfl rfl hl hdg kk
theorem gX7_41 (hx : p.tables.exec = Jvm.exec) (hb : c.code = cc) (hC : zC WM G own args s m) (hI : zI WM G s σ H locs) (hl : Cond.fieldLink own index "FlowFoldModel" "left" "I" ∈ AW) (hdg : decode cc pc = .ok (.getfield index, 3)) (kk : W p l e R s m args below meth c H locs cells slots Q (F0 m (pc + 3) ls (.int (σ 0 41) :: rest))) : W p l e R s m args below meth c H locs cells slots Q (F0 m pc ls (.ref (za G 0) :: rest)) := z_get hx hb hC hI (oX7 G) rfl iX7 41 (by decide) rfl rfl hl hdg kk
theorem pX7_41 (hx : p.tables.exec = Jvm.exec) (hb : c.code = cc) (hC : zC WM G own args s m) (hI : zI WM G s σ H locs) {v : Int32} (hl : Cond.fieldLink own index "FlowFoldModel" "left" "I" ∈ AW) (hdg : decode cc pc = .ok (.putfield index, 3)) (kk : ∀ (σ1 : SF) (H1 : Heap) (locs1 : List Loc), σ1 = zst σ 0 41 v → zI WM G s σ1 H1 locs1 → W p l e R s m args below meth c H1 locs1 cells slots Q (F0 m (pc + 3) ls rest)) : W p l e R s m args below meth c H locs cells slots Q (F0 m pc ls (.int v :: .ref (za G 0) :: rest)) := z_put hx hb hC hI (oX7 G) rfl iX7 tyX7 tyX7_ok nmX7 41 (by decide) rfl rfl (ty := .int) (by decide +kernel) rfl rfl (Nat.le_of_ble_eq_true rfl) rfl hl hdg kk
theorem gX7_42 (hx : p.tables.exec = Jvm.exec) (hb : c.code = cc) (hC : zC WM G own args s m) (hI : zI WM G s σ H locs) (hl : Cond.fieldLink own index "FlowFoldModel" "waiting" "[I" ∈ AW) (hdg : decode cc pc = .ok (.getfield index, 3)) (kk : W p l e R s m args below meth c H locs cells slots Q (F0 m (pc + 3) ls (.ref (za G 20) :: rest))) : W p l e R s m args below meth c H locs cells slots Q (F0 m pc ls (.ref (za G 0) :: rest)) := z_get hx hb hC hI (oX7 G) rfl iX7 42 (by decide) rfl rfl hl hdg kk
theorem gX7_43 (hx : p.tables.exec = Jvm.exec) (hb : c.code = cc) (hC : zC WM G own args s m) (hI : zI WM G s σ H locs) (hl : Cond.fieldLink own index "FlowFoldModel" "opened" "I" ∈ AW) (hdg : decode cc pc = .ok (.getfield index, 3)) (kk : W p l e R s m args below meth c H locs cells slots Q (F0 m (pc + 3) ls (.int (σ 0 43) :: rest))) : W p l e R s m args below meth c H locs cells slots Q (F0 m pc ls (.ref (za G 0) :: rest)) := z_get hx hb hC hI (oX7 G) rfl iX7 43 (by decide) rfl rfl hl hdg kk
theorem pX7_43 (hx : p.tables.exec = Jvm.exec) (hb : c.code = cc) (hC : zC WM G own args s m) (hI : zI WM G s σ H locs) {v : Int32} (hl : Cond.fieldLink own index "FlowFoldModel" "opened" "I" ∈ AW) (hdg : decode cc pc = .ok (.putfield index, 3)) (kk : ∀ (σ1 : SF) (H1 : Heap) (locs1 : List Loc), σ1 = zst σ 0 43 v → zI WM G s σ1 H1 locs1 → W p l e R s m args below meth c H1 locs1 cells slots Q (F0 m (pc + 3) ls rest)) : W p l e R s m args below meth c H locs cells slots Q (F0 m pc ls (.int v :: .ref (za G 0) :: rest)) := z_put hx hb hC hI (oX7 G) rfl iX7 tyX7 tyX7_ok nmX7 43 (by decide) rfl rfl (ty := .int) (by decide +kernel) rfl rfl (Nat.le_of_ble_eq_true rfl) rfl hl hdg kk
theorem gX7_44 (hx : p.tables.exec = Jvm.exec) (hb : c.code = cc) (hC : zC WM G own args s m) (hI : zI WM G s σ H locs) (hl : Cond.fieldLink own index "FlowFoldModel" "open" "[I" ∈ AW) (hdg : decode cc pc = .ok (.getfield index, 3)) (kk : W p l e R s m args below meth c H locs cells slots Q (F0 m (pc + 3) ls (.ref (za G 21) :: rest))) : W p l e R s m args below meth c H locs cells slots Q (F0 m pc ls (.ref (za G 0) :: rest)) := z_get hx hb hC hI (oX7 G) rfl iX7 44 (by decide) rfl rfl hl hdg kk
theorem gX7_45 (hx : p.tables.exec = Jvm.exec) (hb : c.code = cc) (hC : zC WM G own args s m) (hI : zI WM G s σ H locs) (hl : Cond.fieldLink own index "FlowFoldModel" "seedNow" "J" ∈ AW) (hdg : decode cc pc = .ok (.getfield index, 3)) (kk : W p l e R s m args below meth c H locs cells slots Q (F0 m (pc + 3) ls (.long (zgL σ 0 45) :: rest))) : W p l e R s m args below meth c H locs cells slots Q (F0 m pc ls (.ref (za G 0) :: rest)) := z_get hx hb hC hI (oX7 G) rfl iX7 45 (by decide) rfl rfl hl hdg kk
set_option maxRecDepth 4000 in
theorem pX7_45 (hx : p.tables.exec = Jvm.exec) (hb : c.code = cc) (hC : zC WM G own args s m) (hI : zI WM G s σ H locs) {v : Int64} (hl : Cond.fieldLink own index "FlowFoldModel" "seedNow" "J" ∈ AW) (hdg : decode cc pc = .ok (.putfield index, 3)) (kk : ∀ (σ1 : SF) (H1 : Heap) (locs1 : List Loc), σ1 = zsL σ 0 45 v → zI WM G s σ1 H1 locs1 → W p l e R s m args below meth c H1 locs1 cells slots Q (F0 m (pc + 3) ls rest)) : W p l e R s m args below meth c H locs cells slots Q (F0 m pc ls (.long v :: .ref (za G 0) :: rest)) := z_putL hx hb hC hI (oX7 G) rfl iX7 tyX7 tyX7_ok nmX7 45 (by decide) rfl rfl (ty := .long) (by decide +kernel) rfl rfl (Nat.le_of_ble_eq_true rfl) (by simp [upd, zLg_of]) hl hdg kk
theorem gX7_46 (hx : p.tables.exec = Jvm.exec) (hb : c.code = cc) (hC : zC WM G own args s m) (hI : zI WM G s σ H locs) (hl : Cond.fieldLink own index "FlowFoldModel" "isKept" "Z" ∈ AW) (hdg : decode cc pc = .ok (.getfield index, 3)) (kk : W p l e R s m args below meth c H locs cells slots Q (F0 m (pc + 3) ls (.int (σ 0 46) :: rest))) : W p l e R s m args below meth c H locs cells slots Q (F0 m pc ls (.ref (za G 0) :: rest)) := z_get hx hb hC hI (oX7 G) rfl iX7 46 (by decide) rfl rfl hl hdg kk
theorem pX7_46 (hx : p.tables.exec = Jvm.exec) (hb : c.code = cc) (hC : zC WM G own args s m) (hI : zI WM G s σ H locs) {v : Int32} (hn : narrow .boolean (.int v) = .int v) (hft : fits .boolean (.int v) = true) (hl : Cond.fieldLink own index "FlowFoldModel" "isKept" "Z" ∈ AW) (hdg : decode cc pc = .ok (.putfield index, 3)) (kk : ∀ (σ1 : SF) (H1 : Heap) (locs1 : List Loc), σ1 = zst σ 0 46 v → zI WM G s σ1 H1 locs1 → W p l e R s m args below meth c H1 locs1 cells slots Q (F0 m (pc + 3) ls rest)) : W p l e R s m args below meth c H locs cells slots Q (F0 m pc ls (.int v :: .ref (za G 0) :: rest)) := z_put hx hb hC hI (oX7 G) rfl iX7 tyX7 tyX7_ok nmX7 46 (by decide) rfl rfl (ty := .boolean) (by decide +kernel) hn hft (Nat.le_of_ble_eq_true rfl) rfl hl hdg kk
theorem gX7_47 (hx : p.tables.exec = Jvm.exec) (hb : c.code = cc) (hC : zC WM G own args s m) (hI : zI WM G s σ H locs) (hl : Cond.fieldLink own index "FlowFoldModel" "keptGraph" "I" ∈ AW) (hdg : decode cc pc = .ok (.getfield index, 3)) (kk : W p l e R s m args below meth c H locs cells slots Q (F0 m (pc + 3) ls (.int (σ 0 47) :: rest))) : W p l e R s m args below meth c H locs cells slots Q (F0 m pc ls (.ref (za G 0) :: rest)) := z_get hx hb hC hI (oX7 G) rfl iX7 47 (by decide) rfl rfl hl hdg kk
theorem pX7_47 (hx : p.tables.exec = Jvm.exec) (hb : c.code = cc) (hC : zC WM G own args s m) (hI : zI WM G s σ H locs) {v : Int32} (hl : Cond.fieldLink own index "FlowFoldModel" "keptGraph" "I" ∈ AW) (hdg : decode cc pc = .ok (.putfield index, 3)) (kk : ∀ (σ1 : SF) (H1 : Heap) (locs1 : List Loc), σ1 = zst σ 0 47 v → zI WM G s σ1 H1 locs1 → W p l e R s m args below meth c H1 locs1 cells slots Q (F0 m (pc + 3) ls rest)) : W p l e R s m args below meth c H locs cells slots Q (F0 m pc ls (.int v :: .ref (za G 0) :: rest)) := z_put hx hb hC hI (oX7 G) rfl iX7 tyX7 tyX7_ok nmX7 47 (by decide) rfl rfl (ty := .int) (by decide +kernel) rfl rfl (Nat.le_of_ble_eq_true rfl) rfl hl hdg kk
theorem gX7_48 (hx : p.tables.exec = Jvm.exec) (hb : c.code = cc) (hC : zC WM G own args s m) (hI : zI WM G s σ H locs) (hl : Cond.fieldLink own index "FlowFoldModel" "keptSeen" "I" ∈ AW) (hdg : decode cc pc = .ok (.getfield index, 3)) (kk : W p l e R s m args below meth c H locs cells slots Q (F0 m (pc + 3) ls (.int (σ 0 48) :: rest))) : W p l e R s m args below meth c H locs cells slots Q (F0 m pc ls (.ref (za G 0) :: rest)) := z_get hx hb hC hI (oX7 G) rfl iX7 48 (by decide) rfl rfl hl hdg kk
theorem pX7_48 (hx : p.tables.exec = Jvm.exec) (hb : c.code = cc) (hC : zC WM G own args s m) (hI : zI WM G s σ H locs) {v : Int32} (hl : Cond.fieldLink own index "FlowFoldModel" "keptSeen" "I" ∈ AW) (hdg : decode cc pc = .ok (.putfield index, 3)) (kk : ∀ (σ1 : SF) (H1 : Heap) (locs1 : List Loc), σ1 = zst σ 0 48 v → zI WM G s σ1 H1 locs1 → W p l e R s m args below meth c H1 locs1 cells slots Q (F0 m (pc + 3) ls rest)) : W p l e R s m args below meth c H locs cells slots Q (F0 m pc ls (.int v :: .ref (za G 0) :: rest)) := z_put hx hb hC hI (oX7 G) rfl iX7 tyX7 tyX7_ok nmX7 48 (by decide) rfl rfl (ty := .int) (by decide +kernel) rfl rfl (Nat.le_of_ble_eq_true rfl) rfl hl hdg kk
theorem gX7_49 (hx : p.tables.exec = Jvm.exec) (hb : c.code = cc) (hC : zC WM G own args s m) (hI : zI WM G s σ H locs) (hl : Cond.fieldLink own index "FlowFoldModel" "keptKind" "[I" ∈ AW) (hdg : decode cc pc = .ok (.getfield index, 3)) (kk : W p l e R s m args below meth c H locs cells slots Q (F0 m (pc + 3) ls (.ref (za G 22) :: rest))) : W p l e R s m args below meth c H locs cells slots Q (F0 m pc ls (.ref (za G 0) :: rest)) := z_get hx hb hC hI (oX7 G) rfl iX7 49 (by decide) rfl rfl hl hdg kk
theorem gX7_50 (hx : p.tables.exec = Jvm.exec) (hb : c.code = cc) (hC : zC WM G own args s m) (hI : zI WM G s σ H locs) (hl : Cond.fieldLink own index "FlowFoldModel" "keptTo" "[I" ∈ AW) (hdg : decode cc pc = .ok (.getfield index, 3)) (kk : W p l e R s m args below meth c H locs cells slots Q (F0 m (pc + 3) ls (.ref (za G 23) :: rest))) : W p l e R s m args below meth c H locs cells slots Q (F0 m pc ls (.ref (za G 0) :: rest)) := z_get hx hb hC hI (oX7 G) rfl iX7 50 (by decide) rfl rfl hl hdg kk
theorem gX7_51 (hx : p.tables.exec = Jvm.exec) (hb : c.code = cc) (hC : zC WM G own args s m) (hI : zI WM G s σ H locs) (hl : Cond.fieldLink own index "FlowFoldModel" "keptNode" "[I" ∈ AW) (hdg : decode cc pc = .ok (.getfield index, 3)) (kk : W p l e R s m args below meth c H locs cells slots Q (F0 m (pc + 3) ls (.ref (za G 24) :: rest))) : W p l e R s m args below meth c H locs cells slots Q (F0 m pc ls (.ref (za G 0) :: rest)) := z_get hx hb hC hI (oX7 G) rfl iX7 51 (by decide) rfl rfl hl hdg kk
theorem gX7_52 (hx : p.tables.exec = Jvm.exec) (hb : c.code = cc) (hC : zC WM G own args s m) (hI : zI WM G s σ H locs) (hl : Cond.fieldLink own index "FlowFoldModel" "keptVisit" "[I" ∈ AW) (hdg : decode cc pc = .ok (.getfield index, 3)) (kk : W p l e R s m args below meth c H locs cells slots Q (F0 m (pc + 3) ls (.ref (za G 25) :: rest))) : W p l e R s m args below meth c H locs cells slots Q (F0 m pc ls (.ref (za G 0) :: rest)) := z_get hx hb hC hI (oX7 G) rfl iX7 52 (by decide) rfl rfl hl hdg kk
theorem gX7_53 (hx : p.tables.exec = Jvm.exec) (hb : c.code = cc) (hC : zC WM G own args s m) (hI : zI WM G s σ H locs) (hl : Cond.fieldLink own index "FlowFoldModel" "keptDid" "[I" ∈ AW) (hdg : decode cc pc = .ok (.getfield index, 3)) (kk : W p l e R s m args below meth c H locs cells slots Q (F0 m (pc + 3) ls (.ref (za G 26) :: rest))) : W p l e R s m args below meth c H locs cells slots Q (F0 m pc ls (.ref (za G 0) :: rest)) := z_get hx hb hC hI (oX7 G) rfl iX7 53 (by decide) rfl rfl hl hdg kk
theorem gX7_54 (hx : p.tables.exec = Jvm.exec) (hb : c.code = cc) (hC : zC WM G own args s m) (hI : zI WM G s σ H locs) (hl : Cond.fieldLink own index "FlowFoldModel" "h" "J" ∈ AW) (hdg : decode cc pc = .ok (.getfield index, 3)) (kk : W p l e R s m args below meth c H locs cells slots Q (F0 m (pc + 3) ls (.long (zgL σ 0 54) :: rest))) : W p l e R s m args below meth c H locs cells slots Q (F0 m pc ls (.ref (za G 0) :: rest)) := z_get hx hb hC hI (oX7 G) rfl iX7 54 (by decide) rfl rfl hl hdg kk
set_option maxRecDepth 4000 in
theorem pX7_54 (hx : p.tables.exec = Jvm.exec) (hb : c.code = cc) (hC : zC WM G own args s m) (hI : zI WM G s σ H locs) {v : Int64} (hl : Cond.fieldLink own index "FlowFoldModel" "h" "J" ∈ AW) (hdg : decode cc pc = .ok (.putfield index, 3)) (kk : ∀ (σ1 : SF) (H1 : Heap) (locs1 : List Loc), σ1 = zsL σ 0 54 v → zI WM G s σ1 H1 locs1 → W p l e R s m args below meth c H1 locs1 cells slots Q (F0 m (pc + 3) ls rest)) : W p l e R s m args below meth c H locs cells slots Q (F0 m pc ls (.long v :: .ref (za G 0) :: rest)) := z_putL hx hb hC hI (oX7 G) rfl iX7 tyX7 tyX7_ok nmX7 54 (by decide) rfl rfl (ty := .long) (by decide +kernel) rfl rfl (Nat.le_of_ble_eq_true rfl) (by simp [upd, zLg_of]) hl hdg kk
end ZF
theorem yyX0_look : zYv yX0_look cX0_look 3 none RX0 1 := ⟨q_im_X0_look, q_se_X0_look, q_co_X0_look, q_in_X0, by decide +kernel, by decide +kernel, by decide +kernel⟩
theorem yyX0_folds : zYv yX0_folds cX0_folds 1 (some .boolean) RX0 0 := ⟨q_im_X0_folds, q_se_X0_folds, q_co_X0_folds, q_in_X0, by decide +kernel, by decide +kernel, by decide +kernel⟩
theorem yyX0_nodeAt : zYv yX0_nodeAt cX0_nodeAt 2 (some .int) RX0 1 := ⟨q_im_X0_nodeAt, q_se_X0_nodeAt, q_co_X0_nodeAt, q_in_X0, by decide +kernel, by decide +kernel, by decide +kernel⟩
theorem yyX0_placeOf : zYv yX0_placeOf cX0_placeOf 2 (some .int) RX0 1 := ⟨q_im_X0_placeOf, q_se_X0_placeOf, q_co_X0_placeOf, q_in_X0, by decide +kernel, by decide +kernel, by decide +kernel⟩
theorem yyX0_stateOf : zYv yX0_stateOf cX0_stateOf 3 (some .int) RX0 2 := ⟨q_im_X0_stateOf, q_se_X0_stateOf, q_co_X0_stateOf, q_in_X0, by decide +kernel, by decide +kernel, by decide +kernel⟩
theorem yyX0_isHead : zYv yX0_isHead cX0_isHead 2 (some .boolean) RX0 1 := ⟨q_im_X0_isHead, q_se_X0_isHead, q_co_X0_isHead, q_in_X0, by decide +kernel, by decide +kernel, by decide +kernel⟩
theorem yyX0_isMerge : zYv yX0_isMerge cX0_isMerge 2 (some .boolean) RX0 1 := ⟨q_im_X0_isMerge, q_se_X0_isMerge, q_co_X0_isMerge, q_in_X0, by decide +kernel, by decide +kernel, by decide +kernel⟩
theorem yyX0_rules : zYv yX0_rules cX0_rules 3 (some .boolean) RX0 2 := ⟨q_im_X0_rules, q_se_X0_rules, q_co_X0_rules, q_in_X0, by decide +kernel, by decide +kernel, by decide +kernel⟩
theorem yyX0_ruledBy : zYv yX0_ruledBy cX0_ruledBy 4 (some .int) RX0 1 := ⟨q_im_X0_ruledBy, q_se_X0_ruledBy, q_co_X0_ruledBy, q_in_X0, by decide +kernel, by decide +kernel, by decide +kernel⟩
theorem yyX0_lordOf : zYv yX0_lordOf cX0_lordOf 4 (some .int) RX0 1 := ⟨q_im_X0_lordOf, q_se_X0_lordOf, q_co_X0_lordOf, q_in_X0, by decide +kernel, by decide +kernel, by decide +kernel⟩
theorem yyX0_findTargets : zYv yX0_findTargets cX0_findTargets 6 none RX0 1 := ⟨q_im_X0_findTargets, q_se_X0_findTargets, q_co_X0_findTargets, q_in_X0, by decide +kernel, by decide +kernel, by decide +kernel⟩
theorem yyX0_doNode : zYv yX0_doNode cX0_doNode 5 none RX0 2 := ⟨q_im_X0_doNode, q_se_X0_doNode, q_co_X0_doNode, q_in_X0, by decide +kernel, by decide +kernel, by decide +kernel⟩
theorem yyX0_findRulers : zYv yX0_findRulers cX0_findRulers 4 none RX0 0 := ⟨q_im_X0_findRulers, q_se_X0_findRulers, q_co_X0_findRulers, q_in_X0, by decide +kernel, by decide +kernel, by decide +kernel⟩
theorem yyX0_strikeBehind : zYv yX0_strikeBehind cX0_strikeBehind 6 (some .boolean) RX0 2 := ⟨q_im_X0_strikeBehind, q_se_X0_strikeBehind, q_co_X0_strikeBehind, q_in_X0, by decide +kernel, by decide +kernel, by decide +kernel⟩
theorem yyX0_weighEdges : zYv yX0_weighEdges cX0_weighEdges 6 none RX0 0 := ⟨q_im_X0_weighEdges, q_se_X0_weighEdges, q_co_X0_weighEdges, q_in_X0, by decide +kernel, by decide +kernel, by decide +kernel⟩
theorem yyX1_has : zYv yX1_has cX1_has 2 (some .boolean) RX1 1 := ⟨q_im_X1_has, q_se_X1_has, q_co_X1_has, q_in_X1, by decide +kernel, by decide +kernel, by decide +kernel⟩
theorem yyX1_grow : zYv yX1_grow cX1_grow 2 (some .boolean) RX1 1 := ⟨q_im_X1_grow, q_se_X1_grow, q_co_X1_grow, q_in_X1, by decide +kernel, by decide +kernel, by decide +kernel⟩
theorem yyX1_target : zYv yX1_target cX1_target 3 (some .int) RX1 2 := ⟨q_im_X1_target, q_se_X1_target, q_co_X1_target, q_in_X1, by decide +kernel, by decide +kernel, by decide +kernel⟩
theorem yyX1_put : zYv yX1_put cX1_put 4 none RX1 3 := ⟨q_im_X1_put, q_se_X1_put, q_co_X1_put, q_in_X1, by decide +kernel, by decide +kernel, by decide +kernel⟩
theorem yyX1_copyFrom : zYv yX1_copyFrom cX1_copyFrom 2 none RX1 1 := ⟨q_im_X1_copyFrom, q_se_X1_copyFrom, q_co_X1_copyFrom, q_in_X1, by decide +kernel, by decide +kernel, by decide +kernel⟩
theorem yyX2_add : zYv yX2_add cX2_add 2 (some .boolean) RX2 1 := ⟨q_im_X2_add, q_se_X2_add, q_co_X2_add, q_in_X2, by decide +kernel, by decide +kernel, by decide +kernel⟩
theorem yyX2_readInto : zYv yX2_readInto cX2_readInto 8 (some .int) RX2 1 := ⟨q_im_X2_readInto, q_se_X2_readInto, q_co_X2_readInto, q_in_X2, by decide +kernel, by decide +kernel, by decide +kernel⟩
theorem yyX3_add : zYv yX3_add cX3_add 4 (some .boolean) RX3 3 := ⟨q_im_X3_add, q_se_X3_add, q_co_X3_add, q_in_X3, by decide +kernel, by decide +kernel, by decide +kernel⟩
theorem yyX3_copyFrom : zYv yX3_copyFrom cX3_copyFrom 2 none RX3 1 := ⟨q_im_X3_copyFrom, q_se_X3_copyFrom, q_co_X3_copyFrom, q_in_X3, by decide +kernel, by decide +kernel, by decide +kernel⟩
theorem yyX3_sortsOf : zYv yX3_sortsOf cX3_sortsOf 4 (some .int) RX3 1 := ⟨q_im_X3_sortsOf, q_se_X3_sortsOf, q_co_X3_sortsOf, q_in_X3, by decide +kernel, by decide +kernel, by decide +kernel⟩
theorem yyX3_askFor : zYv yX3_askFor cX3_askFor 8 (some .int) RX3 1 := ⟨q_im_X3_askFor, q_se_X3_askFor, q_co_X3_askFor, q_in_X3, by decide +kernel, by decide +kernel, by decide +kernel⟩
theorem yyX3_sortsThatDo : zYs yX3_sortsThatDo cX3_sortsThatDo 4 (some .int) 2 := ⟨q_st_X3_sortsThatDo, q_co_X3_sortsThatDo, q_in_X3, by decide +kernel, by decide +kernel, by decide +kernel⟩
theorem yyX4_write : zYv yX4_write cX4_write 1 none RX4 0 := ⟨q_im_X4_write, q_se_X4_write, q_co_X4_write, q_in_X4, by decide +kernel, by decide +kernel, by decide +kernel⟩
theorem yyX4_putTree : zYv yX4_putTree cX4_putTree 4 none RX4 2 := ⟨q_im_X4_putTree, q_se_X4_putTree, q_co_X4_putTree, q_in_X4, by decide +kernel, by decide +kernel, by decide +kernel⟩
theorem yyX4_putWithin : zYv yX4_putWithin cX4_putWithin 5 none RX4 2 := ⟨q_im_X4_putWithin, q_se_X4_putWithin, q_co_X4_putWithin, q_in_X4, by decide +kernel, by decide +kernel, by decide +kernel⟩
theorem yyX4_isBlockIn : zYv yX4_isBlockIn cX4_isBlockIn 3 (some .boolean) RX4 2 := ⟨q_im_X4_isBlockIn, q_se_X4_isBlockIn, q_co_X4_isBlockIn, q_in_X4, by decide +kernel, by decide +kernel, by decide +kernel⟩
theorem yyX4_putBranch : zYv yX4_putBranch cX4_putBranch 5 none RX4 3 := ⟨q_im_X4_putBranch, q_se_X4_putBranch, q_co_X4_putBranch, q_in_X4, by decide +kernel, by decide +kernel, by decide +kernel⟩
theorem yyX4_depthOf : zYv yX4_depthOf cX4_depthOf 3 (some .int) RX4 1 := ⟨q_im_X4_depthOf, q_se_X4_depthOf, q_co_X4_depthOf, q_in_X4, by decide +kernel, by decide +kernel, by decide +kernel⟩
theorem yyX4_putWayOut : zYv yX4_putWayOut cX4_putWayOut 3 none RX4 2 := ⟨q_im_X4_putWayOut, q_se_X4_putWayOut, q_co_X4_putWayOut, q_in_X4, by decide +kernel, by decide +kernel, by decide +kernel⟩
theorem yyX4_putOpening : zYv yX4_putOpening cX4_putOpening 2 none RX4 1 := ⟨q_im_X4_putOpening, q_se_X4_putOpening, q_co_X4_putOpening, q_in_X4, by decide +kernel, by decide +kernel, by decide +kernel⟩
theorem yyX4_putClosing : zYv yX4_putClosing cX4_putClosing 2 none RX4 1 := ⟨q_im_X4_putClosing, q_se_X4_putClosing, q_co_X4_putClosing, q_in_X4, by decide +kernel, by decide +kernel, by decide +kernel⟩
theorem yyX4_put : zYv yX4_put cX4_put 2 none RX4 1 := ⟨q_im_X4_put, q_se_X4_put, q_co_X4_put, q_in_X4, by decide +kernel, by decide +kernel, by decide +kernel⟩
theorem yyX5_go : zYv yX5_go cX5_go 6 none RX5 2 := ⟨q_im_X5_go, q_se_X5_go, q_co_X5_go, q_in_X5, by decide +kernel, by decide +kernel, by decide +kernel⟩
theorem yyX6_letter : zYv yX6_letter cX6_letter 2 (some .int) RX6 1 := ⟨q_im_X6_letter, q_se_X6_letter, q_co_X6_letter, q_in_X6, by decide +kernel, by decide +kernel, by decide +kernel⟩
theorem yyX6_blank : zYv yX6_blank cX6_blank 2 (some .int) RX6 0 := ⟨q_im_X6_blank, q_se_X6_blank, q_co_X6_blank, q_in_X6, by decide +kernel, by decide +kernel, by decide +kernel⟩
theorem yyX6_fault : zYv yX6_fault cX6_fault 1 (some .int) RX6 0 := ⟨q_im_X6_fault, q_se_X6_fault, q_co_X6_fault, q_in_X6, by decide +kernel, by decide +kernel, by decide +kernel⟩
theorem yyX6_graph : zYv yX6_graph cX6_graph 1 (some .int) RX6 0 := ⟨q_im_X6_graph, q_se_X6_graph, q_co_X6_graph, q_in_X6, by decide +kernel, by decide +kernel, by decide +kernel⟩
theorem yyX6_node : zYv yX6_node cX6_node 3 (some .int) RX6 2 := ⟨q_im_X6_node, q_se_X6_node, q_co_X6_node, q_in_X6, by decide +kernel, by decide +kernel, by decide +kernel⟩
theorem yyX6_as : zYv yX6_as cX6_as 5 (some .int) RX6 2 := ⟨q_im_X6_as, q_se_X6_as, q_co_X6_as, q_in_X6, by decide +kernel, by decide +kernel, by decide +kernel⟩
theorem yyX6_dominates : zYv yX6_dominates cX6_dominates 3 (some .int) RX6 2 := ⟨q_im_X6_dominates, q_se_X6_dominates, q_co_X6_dominates, q_in_X6, by decide +kernel, by decide +kernel, by decide +kernel⟩
theorem yyX6_edge : zYv yX6_edge cX6_edge 3 (some .int) RX6 2 := ⟨q_im_X6_edge, q_se_X6_edge, q_co_X6_edge, q_in_X6, by decide +kernel, by decide +kernel, by decide +kernel⟩
theorem yyX6_aim : zYv yX6_aim cX6_aim 5 (some .int) RX6 3 := ⟨q_im_X6_aim, q_se_X6_aim, q_co_X6_aim, q_in_X6, by decide +kernel, by decide +kernel, by decide +kernel⟩
theorem yyX6_be : zYv yX6_be cX6_be 4 (some .int) RX6 2 := ⟨q_im_X6_be, q_se_X6_be, q_co_X6_be, q_in_X6, by decide +kernel, by decide +kernel, by decide +kernel⟩
theorem yyX6_walk : zYv yX6_walk cX6_walk 2 (some .int) RX6 1 := ⟨q_im_X6_walk, q_se_X6_walk, q_co_X6_walk, q_in_X6, by decide +kernel, by decide +kernel, by decide +kernel⟩
theorem yyX6_visit : zYv yX6_visit cX6_visit 2 (some .int) RX6 1 := ⟨q_im_X6_visit, q_se_X6_visit, q_co_X6_visit, q_in_X6, by decide +kernel, by decide +kernel, by decide +kernel⟩
theorem yyX6_sign : zYv yX6_sign cX6_sign 2 (some .int) RX6 1 := ⟨q_im_X6_sign, q_se_X6_sign, q_co_X6_sign, q_in_X6, by decide +kernel, by decide +kernel, by decide +kernel⟩
theorem yyX6_fold : zYv yX6_fold cX6_fold 2 (some .int) RX6 1 := ⟨q_im_X6_fold, q_se_X6_fold, q_co_X6_fold, q_in_X6, by decide +kernel, by decide +kernel, by decide +kernel⟩
theorem yyX6_mend : zYv yX6_mend cX6_mend 3 (some .int) RX6 1 := ⟨q_im_X6_mend, q_se_X6_mend, q_co_X6_mend, q_in_X6, by decide +kernel, by decide +kernel, by decide +kernel⟩
theorem yyX6_see : zYv yX6_see cX6_see 4 (some .int) RX6 3 := ⟨q_im_X6_see, q_se_X6_see, q_co_X6_see, q_in_X6, by decide +kernel, by decide +kernel, by decide +kernel⟩
theorem yyX6_forget : zYv yX6_forget cX6_forget 2 (some .int) RX6 0 := ⟨q_im_X6_forget, q_se_X6_forget, q_co_X6_forget, q_in_X6, by decide +kernel, by decide +kernel, by decide +kernel⟩
theorem yyX6_drawn : zYv yX6_drawn cX6_drawn 8 (some .int) RX6 3 := ⟨q_im_X6_drawn, q_se_X6_drawn, q_co_X6_drawn, q_in_X6, by decide +kernel, by decide +kernel, by decide +kernel⟩
theorem yyX6_image : zYv yX6_image cX6_image 1 (some .int) RX6 0 := ⟨q_im_X6_image, q_se_X6_image, q_co_X6_image, q_in_X6, by decide +kernel, by decide +kernel, by decide +kernel⟩
theorem yyX6_restore : zYv yX6_restore cX6_restore 1 (some .int) RX6 0 := ⟨q_im_X6_restore, q_se_X6_restore, q_co_X6_restore, q_in_X6, by decide +kernel, by decide +kernel, by decide +kernel⟩
theorem yyX6_count : zYv yX6_count cX6_count 2 (some .int) RX6 1 := ⟨q_im_X6_count, q_se_X6_count, q_co_X6_count, q_in_X6, by decide +kernel, by decide +kernel, by decide +kernel⟩
theorem yyX6_digest : zYv yX6_digest cX6_digest 5 (some .long) RX6 0 := ⟨q_im_X6_digest, q_se_X6_digest, q_co_X6_digest, q_in_X6, by decide +kernel, by decide +kernel, by decide +kernel⟩
theorem yyX6_joined : zYs yX6_joined cX6_joined 7 (some .long) 3 := ⟨q_st_X6_joined, q_co_X6_joined, q_in_X6, by decide +kernel, by decide +kernel, by decide +kernel⟩
theorem yyX6_lookAnew : zYv yX6_lookAnew cX6_lookAnew 1 none RX6 0 := ⟨q_im_X6_lookAnew, q_se_X6_lookAnew, q_co_X6_lookAnew, q_in_X6, by decide +kernel, by decide +kernel, by decide +kernel⟩
theorem yyX6_fewestLeftOut : zYv yX6_fewestLeftOut cX6_fewestLeftOut 3 (some .int) RX6 0 := ⟨q_im_X6_fewestLeftOut, q_se_X6_fewestLeftOut, q_co_X6_fewestLeftOut, q_in_X6, by decide +kernel, by decide +kernel, by decide +kernel⟩
theorem yyX6_leastLeftOut : zYv yX6_leastLeftOut cX6_leastLeftOut 6 (some .int) RX6 3 := ⟨q_im_X6_leastLeftOut, q_se_X6_leastLeftOut, q_co_X6_leastLeftOut, q_in_X6, by decide +kernel, by decide +kernel, by decide +kernel⟩
theorem yyX6_drawDraft : zYv yX6_drawDraft cX6_drawDraft 4 (some .int) RX6 1 := ⟨q_im_X6_drawDraft, q_se_X6_drawDraft, q_co_X6_drawDraft, q_in_X6, by decide +kernel, by decide +kernel, by decide +kernel⟩
theorem yyX6_nextSeed : zYs yX6_nextSeed cX6_nextSeed 1 (some .int) 1 := ⟨q_st_X6_nextSeed, q_co_X6_nextSeed, q_in_X6, by decide +kernel, by decide +kernel, by decide +kernel⟩
theorem yyX6_drawBy : zYs yX6_drawBy cX6_drawBy 2 (some .int) 2 := ⟨q_st_X6_drawBy, q_co_X6_drawBy, q_in_X6, by decide +kernel, by decide +kernel, by decide +kernel⟩
theorem yyX6_isKind : zYs yX6_isKind cX6_isKind 1 (some .boolean) 1 := ⟨q_st_X6_isKind, q_co_X6_isKind, q_in_X6, by decide +kernel, by decide +kernel, by decide +kernel⟩
theorem yyX6_isEnd : zYs yX6_isEnd cX6_isEnd 1 (some .boolean) 1 := ⟨q_st_X6_isEnd, q_co_X6_isEnd, q_in_X6, by decide +kernel, by decide +kernel, by decide +kernel⟩
theorem yyX6_endsOf : zYs yX6_endsOf cX6_endsOf 1 (some .int) 1 := ⟨q_st_X6_endsOf, q_co_X6_endsOf, q_in_X6, by decide +kernel, by decide +kernel, by decide +kernel⟩
theorem yyX6_doesAt : zYs yX6_doesAt cX6_doesAt 3 (some .int) 3 := ⟨q_st_X6_doesAt, q_co_X6_doesAt, q_in_X6, by decide +kernel, by decide +kernel, by decide +kernel⟩
theorem yyX7_within : zYs yX7_within cX7_within 3 (some .boolean) 3 := ⟨q_st_X7_within, q_co_X7_within, q_in_X7, by decide +kernel, by decide +kernel, by decide +kernel⟩
theorem yyX7_isIn : zYs yX7_isIn cX7_isIn 2 (some .boolean) 2 := ⟨q_st_X7_isIn, q_co_X7_isIn, q_in_X7, by decide +kernel, by decide +kernel, by decide +kernel⟩
theorem yyX7_size : zYs yX7_size cX7_size 3 (some .int) 1 := ⟨q_st_X7_size, q_co_X7_size, q_in_X7, by decide +kernel, by decide +kernel, by decide +kernel⟩
theorem yyX7_letter : zYv yX7_letter cX7_letter 2 (some .int) RX7 1 := ⟨q_im_X7_letter, q_se_X7_letter, q_co_X7_letter, q_in_X7, by decide +kernel, by decide +kernel, by decide +kernel⟩
theorem yyX7_blank : zYv yX7_blank cX7_blank 2 (some .int) RX7 0 := ⟨q_im_X7_blank, q_se_X7_blank, q_co_X7_blank, q_in_X7, by decide +kernel, by decide +kernel, by decide +kernel⟩
theorem yyX7_kindBy : zYs yX7_kindBy cX7_kindBy 1 (some .int) 1 := ⟨q_st_X7_kindBy, q_co_X7_kindBy, q_in_X7, by decide +kernel, by decide +kernel, by decide +kernel⟩
theorem yyX7_ends : zYs yX7_ends cX7_ends 1 (some .int) 1 := ⟨q_st_X7_ends, q_co_X7_ends, q_in_X7, by decide +kernel, by decide +kernel, by decide +kernel⟩
theorem yyX7_at : zYv yX7_at cX7_at 2 (some .int) RX7 1 := ⟨q_im_X7_at, q_se_X7_at, q_co_X7_at, q_in_X7, by decide +kernel, by decide +kernel, by decide +kernel⟩
theorem yyX7_read : zYv yX7_read cX7_read 5 (some .int) RX7 0 := ⟨q_im_X7_read, q_se_X7_read, q_co_X7_read, q_in_X7, by decide +kernel, by decide +kernel, by decide +kernel⟩
theorem yyX7_fault : zYv yX7_fault cX7_fault 1 (some .int) RX7 0 := ⟨q_im_X7_fault, q_se_X7_fault, q_co_X7_fault, q_in_X7, by decide +kernel, by decide +kernel, by decide +kernel⟩
theorem yyX7_graph : zYv yX7_graph cX7_graph 2 (some .int) RX7 0 := ⟨q_im_X7_graph, q_se_X7_graph, q_co_X7_graph, q_in_X7, by decide +kernel, by decide +kernel, by decide +kernel⟩
theorem yyX7_isNode : zYv yX7_isNode cX7_isNode 2 (some .boolean) RX7 1 := ⟨q_im_X7_isNode, q_se_X7_isNode, q_co_X7_isNode, q_in_X7, by decide +kernel, by decide +kernel, by decide +kernel⟩
theorem yyX7_layGraph : zYv yX7_layGraph cX7_layGraph 2 none RX7 0 := ⟨q_im_X7_layGraph, q_se_X7_layGraph, q_co_X7_layGraph, q_in_X7, by decide +kernel, by decide +kernel, by decide +kernel⟩
theorem yyX7_isEdge : zYv yX7_isEdge cX7_isEdge 2 (some .boolean) RX7 1 := ⟨q_im_X7_isEdge, q_se_X7_isEdge, q_co_X7_isEdge, q_in_X7, by decide +kernel, by decide +kernel, by decide +kernel⟩
theorem yyX7_layOrder : zYv yX7_layOrder cX7_layOrder 5 none RX7 0 := ⟨q_im_X7_layOrder, q_se_X7_layOrder, q_co_X7_layOrder, q_in_X7, by decide +kernel, by decide +kernel, by decide +kernel⟩
theorem yyX7_without : zYv yX7_without cX7_without 6 (some .int) RX7 1 := ⟨q_im_X7_without, q_se_X7_without, q_co_X7_without, q_in_X7, by decide +kernel, by decide +kernel, by decide +kernel⟩
theorem yyX7_layLords : zYv yX7_layLords cX7_layLords 4 none RX7 0 := ⟨q_im_X7_layLords, q_se_X7_layLords, q_co_X7_layLords, q_in_X7, by decide +kernel, by decide +kernel, by decide +kernel⟩
theorem yyX7_isLive : zYv yX7_isLive cX7_isLive 2 (some .boolean) RX7 1 := ⟨q_im_X7_isLive, q_se_X7_isLive, q_co_X7_isLive, q_in_X7, by decide +kernel, by decide +kernel, by decide +kernel⟩
theorem yyX7_retreats : zYv yX7_retreats cX7_retreats 2 (some .boolean) RX7 1 := ⟨q_im_X7_retreats, q_se_X7_retreats, q_co_X7_retreats, q_in_X7, by decide +kernel, by decide +kernel, by decide +kernel⟩
theorem yyX7_isBack : zYv yX7_isBack cX7_isBack 2 (some .boolean) RX7 1 := ⟨q_im_X7_isBack, q_se_X7_isBack, q_co_X7_isBack, q_in_X7, by decide +kernel, by decide +kernel, by decide +kernel⟩
theorem yyX7_layEdges : zYv yX7_layEdges cX7_layEdges 4 none RX7 0 := ⟨q_im_X7_layEdges, q_se_X7_layEdges, q_co_X7_layEdges, q_in_X7, by decide +kernel, by decide +kernel, by decide +kernel⟩
theorem yyX7_lay : zYv yX7_lay cX7_lay 1 none RX7 0 := ⟨q_im_X7_lay, q_se_X7_lay, q_co_X7_lay, q_in_X7, by decide +kernel, by decide +kernel, by decide +kernel⟩
theorem yyX7_layNow : zYv yX7_layNow cX7_layNow 1 none RX7 0 := ⟨q_im_X7_layNow, q_se_X7_layNow, q_co_X7_layNow, q_in_X7, by decide +kernel, by decide +kernel, by decide +kernel⟩
theorem yyX7_dominated : zYv yX7_dominated cX7_dominated 4 (some .int) RX7 1 := ⟨q_im_X7_dominated, q_se_X7_dominated, q_co_X7_dominated, q_in_X7, by decide +kernel, by decide +kernel, by decide +kernel⟩
theorem yyX7_nodeNow : zYv yX7_nodeNow cX7_nodeNow 3 (some .int) RX7 2 := ⟨q_im_X7_nodeNow, q_se_X7_nodeNow, q_co_X7_nodeNow, q_in_X7, by decide +kernel, by decide +kernel, by decide +kernel⟩
theorem yyX7_node : zYv yX7_node cX7_node 3 (some .int) RX7 2 := ⟨q_im_X7_node, q_se_X7_node, q_co_X7_node, q_in_X7, by decide +kernel, by decide +kernel, by decide +kernel⟩
theorem yyX7_as : zYv yX7_as cX7_as 4 (some .int) RX7 2 := ⟨q_im_X7_as, q_se_X7_as, q_co_X7_as, q_in_X7, by decide +kernel, by decide +kernel, by decide +kernel⟩
theorem yyX7_dominates : zYv yX7_dominates cX7_dominates 3 (some .int) RX7 2 := ⟨q_im_X7_dominates, q_se_X7_dominates, q_co_X7_dominates, q_in_X7, by decide +kernel, by decide +kernel, by decide +kernel⟩
theorem yyX7_edgeNow : zYv yX7_edgeNow cX7_edgeNow 2 (some .int) RX7 1 := ⟨q_im_X7_edgeNow, q_se_X7_edgeNow, q_co_X7_edgeNow, q_in_X7, by decide +kernel, by decide +kernel, by decide +kernel⟩
theorem yyX7_edge : zYv yX7_edge cX7_edge 3 (some .int) RX7 2 := ⟨q_im_X7_edge, q_se_X7_edge, q_co_X7_edge, q_in_X7, by decide +kernel, by decide +kernel, by decide +kernel⟩
theorem yyX7_aim : zYv yX7_aim cX7_aim 5 (some .int) RX7 3 := ⟨q_im_X7_aim, q_se_X7_aim, q_co_X7_aim, q_in_X7, by decide +kernel, by decide +kernel, by decide +kernel⟩
theorem yyX7_be : zYv yX7_be cX7_be 4 (some .int) RX7 2 := ⟨q_im_X7_be, q_se_X7_be, q_co_X7_be, q_in_X7, by decide +kernel, by decide +kernel, by decide +kernel⟩
theorem yyX7_endBy : zYs yX7_endBy cX7_endBy 3 (some .int) 3 := ⟨q_st_X7_endBy, q_co_X7_endBy, q_in_X7, by decide +kernel, by decide +kernel, by decide +kernel⟩
theorem yyX7_walkNow : zYv yX7_walkNow cX7_walkNow 6 (some .int) RX7 1 := ⟨q_im_X7_walkNow, q_se_X7_walkNow, q_co_X7_walkNow, q_in_X7, by decide +kernel, by decide +kernel, by decide +kernel⟩
theorem yyX7_walk : zYv yX7_walk cX7_walk 2 (some .int) RX7 1 := ⟨q_im_X7_walk, q_se_X7_walk, q_co_X7_walk, q_in_X7, by decide +kernel, by decide +kernel, by decide +kernel⟩
theorem yyX7_visit : zYv yX7_visit cX7_visit 2 (some .int) RX7 1 := ⟨q_im_X7_visit, q_se_X7_visit, q_co_X7_visit, q_in_X7, by decide +kernel, by decide +kernel, by decide +kernel⟩
theorem yyX7_tell : zYv yX7_tell cX7_tell 2 none RX7 1 := ⟨q_im_X7_tell, q_se_X7_tell, q_co_X7_tell, q_in_X7, by decide +kernel, by decide +kernel, by decide +kernel⟩
theorem yyX7_later : zYv yX7_later cX7_later 2 none RX7 1 := ⟨q_im_X7_later, q_se_X7_later, q_co_X7_later, q_in_X7, by decide +kernel, by decide +kernel, by decide +kernel⟩
theorem yyX7_opens : zYv yX7_opens cX7_opens 2 none RX7 1 := ⟨q_im_X7_opens, q_se_X7_opens, q_co_X7_opens, q_in_X7, by decide +kernel, by decide +kernel, by decide +kernel⟩
theorem yyX7_depthOf : zYv yX7_depthOf cX7_depthOf 3 (some .int) RX7 1 := ⟨q_im_X7_depthOf, q_se_X7_depthOf, q_co_X7_depthOf, q_in_X7, by decide +kernel, by decide +kernel, by decide +kernel⟩
theorem yyX7_goOut : zYv yX7_goOut cX7_goOut 4 none RX7 2 := ⟨q_im_X7_goOut, q_se_X7_goOut, q_co_X7_goOut, q_in_X7, by decide +kernel, by decide +kernel, by decide +kernel⟩
theorem yyX7_isBlock : zYv yX7_isBlock cX7_isBlock 3 (some .boolean) RX7 2 := ⟨q_im_X7_isBlock, q_se_X7_isBlock, q_co_X7_isBlock, q_in_X7, by decide +kernel, by decide +kernel, by decide +kernel⟩
theorem yyX7_layWithin : zYv yX7_layWithin cX7_layWithin 4 none RX7 1 := ⟨q_im_X7_layWithin, q_se_X7_layWithin, q_co_X7_layWithin, q_in_X7, by decide +kernel, by decide +kernel, by decide +kernel⟩
theorem yyX7_layTree : zYv yX7_layTree cX7_layTree 2 none RX7 1 := ⟨q_im_X7_layTree, q_se_X7_layTree, q_co_X7_layTree, q_in_X7, by decide +kernel, by decide +kernel, by decide +kernel⟩
theorem yyX7_branch : zYv yX7_branch cX7_branch 3 none RX7 1 := ⟨q_im_X7_branch, q_se_X7_branch, q_co_X7_branch, q_in_X7, by decide +kernel, by decide +kernel, by decide +kernel⟩
theorem yyX7_doNext : zYv yX7_doNext cX7_doNext 4 none RX7 1 := ⟨q_im_X7_doNext, q_se_X7_doNext, q_co_X7_doNext, q_in_X7, by decide +kernel, by decide +kernel, by decide +kernel⟩
theorem yyX7_layFold : zYv yX7_layFold cX7_layFold 1 none RX7 0 := ⟨q_im_X7_layFold, q_se_X7_layFold, q_co_X7_layFold, q_in_X7, by decide +kernel, by decide +kernel, by decide +kernel⟩
theorem yyX7_sign : zYv yX7_sign cX7_sign 2 (some .int) RX7 1 := ⟨q_im_X7_sign, q_se_X7_sign, q_co_X7_sign, q_in_X7, by decide +kernel, by decide +kernel, by decide +kernel⟩
theorem yyX7_foldNow : zYv yX7_foldNow cX7_foldNow 2 (some .int) RX7 1 := ⟨q_im_X7_foldNow, q_se_X7_foldNow, q_co_X7_foldNow, q_in_X7, by decide +kernel, by decide +kernel, by decide +kernel⟩
theorem yyX7_fold : zYv yX7_fold cX7_fold 2 (some .int) RX7 1 := ⟨q_im_X7_fold, q_se_X7_fold, q_co_X7_fold, q_in_X7, by decide +kernel, by decide +kernel, by decide +kernel⟩
theorem yyX7_mendSet : zYv yX7_mendSet cX7_mendSet 5 (some .int) RX7 0 := ⟨q_im_X7_mendSet, q_se_X7_mendSet, q_co_X7_mendSet, q_in_X7, by decide +kernel, by decide +kernel, by decide +kernel⟩
theorem yyX7_mendNow : zYv yX7_mendNow cX7_mendNow 3 (some .int) RX7 1 := ⟨q_im_X7_mendNow, q_se_X7_mendNow, q_co_X7_mendNow, q_in_X7, by decide +kernel, by decide +kernel, by decide +kernel⟩
theorem yyX7_mend : zYv yX7_mend cX7_mend 2 (some .int) RX7 1 := ⟨q_im_X7_mend, q_se_X7_mend, q_co_X7_mend, q_in_X7, by decide +kernel, by decide +kernel, by decide +kernel⟩
theorem yyX7_could : zYs yX7_could cX7_could 3 (some .boolean) 3 := ⟨q_st_X7_could, q_co_X7_could, q_in_X7, by decide +kernel, by decide +kernel, by decide +kernel⟩
theorem yyX7_see : zYv yX7_see cX7_see 4 (some .int) RX7 3 := ⟨q_im_X7_see, q_se_X7_see, q_co_X7_see, q_in_X7, by decide +kernel, by decide +kernel, by decide +kernel⟩
theorem yyX7_forget : zYv yX7_forget cX7_forget 2 (some .int) RX7 0 := ⟨q_im_X7_forget, q_se_X7_forget, q_co_X7_forget, q_in_X7, by decide +kernel, by decide +kernel, by decide +kernel⟩
theorem yyX7_sortsOf : zYv yX7_sortsOf cX7_sortsOf 6 (some .int) RX7 1 := ⟨q_im_X7_sortsOf, q_se_X7_sortsOf, q_co_X7_sortsOf, q_in_X7, by decide +kernel, by decide +kernel, by decide +kernel⟩
theorem yyX7_askOf : zYv yX7_askOf cX7_askOf 10 (some .int) RX7 1 := ⟨q_im_X7_askOf, q_se_X7_askOf, q_co_X7_askOf, q_in_X7, by decide +kernel, by decide +kernel, by decide +kernel⟩
theorem yyX7_draw : zYv yX7_draw cX7_draw 2 (some .int) RX7 1 := ⟨q_im_X7_draw, q_se_X7_draw, q_co_X7_draw, q_in_X7, by decide +kernel, by decide +kernel, by decide +kernel⟩
theorem yyX7_drawnNow : zYv yX7_drawnNow cX7_drawnNow 8 (some .int) RX7 3 := ⟨q_im_X7_drawnNow, q_se_X7_drawnNow, q_co_X7_drawnNow, q_in_X7, by decide +kernel, by decide +kernel, by decide +kernel⟩
theorem yyX7_drawn : zYv yX7_drawn cX7_drawn 4 (some .int) RX7 3 := ⟨q_im_X7_drawn, q_se_X7_drawn, q_co_X7_drawn, q_in_X7, by decide +kernel, by decide +kernel, by decide +kernel⟩
theorem yyX7_image : zYv yX7_image cX7_image 2 (some .int) RX7 0 := ⟨q_im_X7_image, q_se_X7_image, q_co_X7_image, q_in_X7, by decide +kernel, by decide +kernel, by decide +kernel⟩
theorem yyX7_restore : zYv yX7_restore cX7_restore 2 (some .int) RX7 0 := ⟨q_im_X7_restore, q_se_X7_restore, q_co_X7_restore, q_in_X7, by decide +kernel, by decide +kernel, by decide +kernel⟩
theorem yyX7_ofGraph : zYv yX7_ofGraph cX7_ofGraph 2 (some .int) RX7 1 := ⟨q_im_X7_ofGraph, q_se_X7_ofGraph, q_co_X7_ofGraph, q_in_X7, by decide +kernel, by decide +kernel, by decide +kernel⟩
theorem yyX7_howMany : zYv yX7_howMany cX7_howMany 2 (some .int) RX7 1 := ⟨q_im_X7_howMany, q_se_X7_howMany, q_co_X7_howMany, q_in_X7, by decide +kernel, by decide +kernel, by decide +kernel⟩
theorem yyX7_count : zYv yX7_count cX7_count 2 (some .int) RX7 1 := ⟨q_im_X7_count, q_se_X7_count, q_co_X7_count, q_in_X7, by decide +kernel, by decide +kernel, by decide +kernel⟩
theorem yyX7_mix : zYv yX7_mix cX7_mix 3 none RX7 1 := ⟨q_im_X7_mix, q_se_X7_mix, q_co_X7_mix, q_in_X7, by decide +kernel, by decide +kernel, by decide +kernel⟩
theorem yyX7_mixGraph : zYv yX7_mixGraph cX7_mixGraph 3 none RX7 0 := ⟨q_im_X7_mixGraph, q_se_X7_mixGraph, q_co_X7_mixGraph, q_in_X7, by decide +kernel, by decide +kernel, by decide +kernel⟩
theorem yyX7_digest : zYv yX7_digest cX7_digest 2 (some .long) RX7 0 := ⟨q_im_X7_digest, q_se_X7_digest, q_co_X7_digest, q_in_X7, by decide +kernel, by decide +kernel, by decide +kernel⟩
theorem yyJ6_bitCount_0f7a4 : zYs yJ6_bitCount_0f7a4 cJ6_bitCount_0f7a4 1 (some .int) 1 := ⟨q_st_J6_bitCount_0f7a4, q_co_J6_bitCount_0f7a4, q_in_J6, by decide +kernel, by decide +kernel, by decide +kernel⟩
theorem yyJ0_length_8abf5 : zYv yJ0_length_8abf5 cJ0_length_8abf5 1 (some .int) RJ0 0 := ⟨q_im_J0_length_8abf5, q_se_J0_length_8abf5, q_co_J0_length_8abf5, q_in_J0, by decide +kernel, by decide +kernel, by decide +kernel⟩
theorem yyJ0_indexOf_0f7a4 : zYv yJ0_indexOf_0f7a4 cJ0_indexOf_0f7a4 2 (some .int) RJ0 1 := ⟨q_im_J0_indexOf_0f7a4, q_se_J0_indexOf_0f7a4, q_co_J0_indexOf_0f7a4, q_in_J0, by decide +kernel, by decide +kernel, by decide +kernel⟩
theorem yyJ0_indexOf_7cf53 : zYv yJ0_indexOf_7cf53 cJ0_indexOf_7cf53 3 (some .int) RJ0 2 := ⟨q_im_J0_indexOf_7cf53, q_se_J0_indexOf_7cf53, q_co_J0_indexOf_7cf53, q_in_J0, by decide +kernel, by decide +kernel, by decide +kernel⟩
theorem yyJ0_coder_7d493 : zYv yJ0_coder_7d493 cJ0_coder_7d493 1 (some .byte) RJ0 0 := ⟨q_im_J0_coder_7d493, q_se_J0_coder_7d493, q_co_J0_coder_7d493, q_in_J0, by decide +kernel, by decide +kernel, by decide +kernel⟩
theorem yyJ0_isLatin1_aae02 : zYv yJ0_isLatin1_aae02 cJ0_isLatin1_aae02 1 (some .boolean) RJ0 0 := ⟨q_im_J0_isLatin1_aae02, q_se_J0_isLatin1_aae02, q_co_J0_isLatin1_aae02, q_in_J0, by decide +kernel, by decide +kernel, by decide +kernel⟩
theorem yyJ1_canEncode_9a6ad : zYs yJ1_canEncode_9a6ad cJ1_canEncode_9a6ad 1 (some .boolean) 1 := ⟨q_st_J1_canEncode_9a6ad, q_co_J1_canEncode_9a6ad, q_in_J1, by decide +kernel, by decide +kernel, by decide +kernel⟩
theorem yyJ1_indexOf_4cfef : zYs yJ1_indexOf_4cfef cJ1_indexOf_4cfef 4 (some .int) 4 := ⟨q_st_J1_indexOf_4cfef, q_co_J1_indexOf_4cfef, q_in_J1, by decide +kernel, by decide +kernel, by decide +kernel⟩
theorem yyJ1_indexOfChar_4cfef : zYs yJ1_indexOfChar_4cfef cJ1_indexOfChar_4cfef 6 (some .int) 4 := ⟨q_st_J1_indexOfChar_4cfef, q_co_J1_indexOfChar_4cfef, q_in_J1, by decide +kernel, by decide +kernel, by decide +kernel⟩
theorem yyJ7_fill_53178 : zYs yJ7_fill_53178 cJ7_fill_53178 4 none 2 := ⟨q_st_J7_fill_53178, q_co_J7_fill_53178, q_in_J7, by decide +kernel, by decide +kernel, by decide +kernel⟩
end
section
theorem lb_m104 : (Int8.ofInt (-104)).toInt32 = (-104) := by decide
theorem lb_m103 : (Int8.ofInt (-103)).toInt32 = (-103) := by decide
theorem lb_m102 : (Int8.ofInt (-102)).toInt32 = (-102) := by decide
theorem lb_m101 : (Int8.ofInt (-101)).toInt32 = (-101) := by decide
theorem lb_6 : (Int8.ofInt 6).toInt32 = 6 := by decide
theorem lb_7 : (Int8.ofInt 7).toInt32 = 7 := by decide
theorem lb_8 : (Int8.ofInt 8).toInt32 = 8 := by decide
theorem lb_9 : (Int8.ofInt 9).toInt32 = 9 := by decide
theorem lb_10 : (Int8.ofInt 10).toInt32 = 10 := by decide
theorem lb_12 : (Int8.ofInt 12).toInt32 = 12 := by decide
theorem lb_16 : (Int8.ofInt 16).toInt32 = 16 := by decide
theorem lb_30 : (Int8.ofInt 30).toInt32 = 30 := by decide
theorem lb_31 : (Int8.ofInt 31).toInt32 = 31 := by decide
theorem lb_32 : (Int8.ofInt 32).toInt32 = 32 := by decide
theorem lb_34 : (Int8.ofInt 34).toInt32 = 34 := by decide
theorem lb_44 : (Int8.ofInt 44).toInt32 = 44 := by decide
theorem lb_48 : (Int8.ofInt 48).toInt32 = 48 := by decide
theorem lb_55 : (Int8.ofInt 55).toInt32 = 55 := by decide
theorem lb_63 : (Int8.ofInt 63).toInt32 = 63 := by decide
theorem lb_64 : (Int8.ofInt 64).toInt32 = 64 := by decide
theorem lb_100 : (Int8.ofInt 100).toInt32 = 100 := by decide
theorem lb_126 : (Int8.ofInt 126).toInt32 = 126 := by decide
theorem lc_m1 : Int32.ofInt (-1) = (-1) := by decide
theorem lc_0 : Int32.ofInt 0 = 0 := by decide
theorem lc_1 : Int32.ofInt 1 = 1 := by decide
theorem lc_2 : Int32.ofInt 2 = 2 := by decide
theorem lc_3 : Int32.ofInt 3 = 3 := by decide
theorem lc_4 : Int32.ofInt 4 = 4 := by decide
theorem lc_5 : Int32.ofInt 5 = 5 := by decide
theorem ls_200 : (Int16.ofInt 200).toInt32 = 200 := by decide
theorem ls_300 : (Int16.ofInt 300).toInt32 = 300 := by decide
theorem ls_301 : (Int16.ofInt 301).toInt32 = 301 := by decide
theorem ls_400 : (Int16.ofInt 400).toInt32 = 400 := by decide
theorem ls_401 : (Int16.ofInt 401).toInt32 = 401 := by decide
theorem ls_500 : (Int16.ofInt 500).toInt32 = 500 := by decide
theorem ls_600 : (Int16.ofInt 600).toInt32 = 600 := by decide
theorem ls_1000 : (Int16.ofInt 1000).toInt32 = 1000 := by decide
theorem ls_2000 : (Int16.ofInt 2000).toInt32 = 2000 := by decide
theorem ls_3000 : (Int16.ofInt 3000).toInt32 = 3000 := by decide
theorem ls_4000 : (Int16.ofInt 4000).toInt32 = 4000 := by decide
theorem ls_5000 : (Int16.ofInt 5000).toInt32 = 5000 := by decide
theorem ls_6300 : (Int16.ofInt 6300).toInt32 = 6300 := by decide
theorem ls_6301 : (Int16.ofInt 6301).toInt32 = 6301 := by decide
/-- where a letter stands among the kinds' letters -/
def kx (c : Int32) : Int32 := if c = 110 then 0 else if c = 102 then 1 else if c = 101 then 2 else if c = 120 then 3 else if c = 116 then 4 else -1
def F_X1_has (σ : SF) (b : Nat) (x1 : Int32) : Option Int32 :=
  if x1 < 0 then (
  some 0
  ) else (
  if (σ b 0) ≤ x1 then (
  some 0
  ) else (
  some 1
  )
  )
def F_X1_target (σ : SF) (b : Nat) (x1 : Int32) (x2 : Int32) : Option Int32 :=
  zb (F_X1_has σ b x1) fun r2 =>
  if r2 = 0 then (
  some (-1)
  ) else (
  if x2 = 0 then (
  zg (zin x1 8) <|
  some (σ (b + 2) (x1 : Int32).toNatClampNeg)
  ) else (
  zg (zin x1 8) <|
  some (σ (b + 3) (x1 : Int32).toNatClampNeg)
  )
  )
def F_X6_endsOf  (x0 : Int32) : Option Int32 :=
  if x0 = 0 then (
  some 1
  ) else (
  if x0 = 2 then (
  some 0
  ) else (
  some 2
  )
  )
def L_X0_findTargets_2 (j : Nat) (y1 : Int32) : Nat → Int32 → SF → Option (Int32 × SF)
  | 0, _, _ => none
  | n + 1, y2, σ =>
    if 16 ≤ y2 then (
    some (y2, σ)
    ) else (
    zl (y2 / 2) fun v1 =>
    zb (F_X1_target σ j v1 (y2 - y2 / 2 * 2)) fun r3 =>
    zb (F_X1_has σ j v1) fun r5 =>
    if r5 = 0 then (
    zg (zin y2 16) <|
    zl (zst σ (j + 5) (y2 : Int32).toNatClampNeg (-1)) fun σ6 =>
    zl (y2 + 1) fun v7 =>
    L_X0_findTargets_2 j y1 n v7 σ6
    ) else (
    zb (F_X1_has σ j r3) fun r9 =>
    if r9 = 0 then (
    zg (zin y2 16) <|
    zl (zst σ (j + 5) (y2 : Int32).toNatClampNeg (-1)) fun σ10 =>
    zl (y2 + 1) fun v11 =>
    L_X0_findTargets_2 j y1 n v11 σ10
    ) else (
    zg (zin v1 8) <|
    zb (F_X6_endsOf (σ (j + 1) (v1 : Int32).toNatClampNeg)) fun r13 =>
    if r13 ≤ (y2 - y2 / 2 * 2) then (
    zg (zin y2 16) <|
    zl (zst σ (j + 5) (y2 : Int32).toNatClampNeg (-1)) fun σ14 =>
    zl (y2 + 1) fun v15 =>
    L_X0_findTargets_2 j y1 n v15 σ14
    ) else (
    if ((y1 >>> (y2 &&& 31)) &&& 1) = 0 then (
    zg (zin y2 16) <|
    zl (zst σ (j + 5) (y2 : Int32).toNatClampNeg r3) fun σ18 =>
    zl (y2 + 1) fun v19 =>
    L_X0_findTargets_2 j y1 n v19 σ18
    ) else (
    zg (zin y2 16) <|
    zl (zst σ (j + 5) (y2 : Int32).toNatClampNeg (-1)) fun σ16 =>
    zl (y2 + 1) fun v17 =>
    L_X0_findTargets_2 j y1 n v17 σ16
    )
    )
    )
    )
    )
def F_X0_findTargets (σ : SF) (j : Nat) (x1 : Int32) : Option SF :=
  zb2 (L_X0_findTargets_2 j x1 100 0 σ) fun v20 σ21 =>
  some σ21
def L_X0_doNode_43 (rec : SF → Int32 → Int32 → Option SF) (j : Nat) (y1 : Int32) (y2 : Int32) : Nat → Int32 → SF → Option (Int32 × SF)
  | 0, _, _ => none
  | n + 1, y3, σ =>
    if (((2 : Int32) * y1) + 1) < y3 then (
    some (y3, σ)
    ) else (
    zg (zin y3 16) <|
    zl (σ (j + 5) (y3 : Int32).toNatClampNeg) fun v5 =>
    if v5 = (-1) then (
    zl (y3 + 1) fun v6 =>
    L_X0_doNode_43 rec j y1 y2 n v6 σ
    ) else (
    if (((σ (j + 4) 7) >>> (v5 &&& 31)) &&& 1) = 0 then (
    zb (rec σ v5 (y2 + 1)) fun σ9 =>
    zl (y3 + 1) fun v10 =>
    L_X0_doNode_43 rec j y1 y2 n v10 σ9
    ) else (
    zl (y3 + 1) fun v7 =>
    L_X0_doNode_43 rec j y1 y2 n v7 σ
    )
    )
    )
def B_X0_doNode (rec : SF → Int32 → Int32 → Option SF) (σ : SF) (j : Nat) (x1 : Int32) (x2 : Int32) : Option SF :=
  zb (F_X1_has σ j x1) fun r2 =>
  if r2 = 0 then (
  some σ
  ) else (
  if 8 ≤ x2 then (
  some σ
  ) else (
  if (σ (j + 4) 6) < 8 then (
  zl (zst σ (j + 4) 7 ((σ (j + 4) 7) ||| ((1 : Int32) <<< (x1 &&& 31)))) fun σ3 =>
  zl ((2 : Int32) * x1) fun v4 =>
  zb2 (L_X0_doNode_43 rec j x1 x2 100 v4 σ3) fun v11 σ12 =>
  zg (zin (σ12 (j + 4) 6) 8) <|
  zl (zst σ12 (j + 7) (σ12 (j + 4) 6 : Int32).toNatClampNeg x1) fun σ14 =>
  zl (zst σ14 (j + 4) 6 ((σ14 (j + 4) 6) + 1)) fun σ15 =>
  some σ15
  ) else (
  some σ
  )
  )
  )
def F_X0_doNode : Nat → SF → Nat → Int32 → Int32 → Option SF
  | 0, _, _, _, _ => none
  | n + 1, σ, j, x1, x2 => B_X0_doNode (fun σ x1 x2 => F_X0_doNode n σ j x1 x2) σ j x1 x2
def L_J7_fill_53178_5 (q : Nat) (nn : Nat) (y1 : Int32) (y3 : Int32) : Nat → Int32 → SF → Option (Int32 × SF)
  | 0, _, _ => none
  | n + 1, y2, σ =>
    if y3 ≤ y2 then (
    some (y2, σ)
    ) else (
    zg (zin y2 nn) <|
    zl (zst σ q (y2 : Int32).toNatClampNeg y1) fun σ2 =>
    zl (y2 + 1) fun v3 =>
    L_J7_fill_53178_5 q nn y1 y3 n v3 σ2
    )
def F_J7_fill_53178 (σ : SF) (q : Nat) (nn : Nat) (x1 : Int32) : Option SF :=
  zl (nI nn) fun v1 =>
  zb2 (L_J7_fill_53178_5 q nn x1 v1 100 0 σ) fun v4 σ5 =>
  some σ5
def F_X0_strikeBehind (σ : SF) (j : Nat) (x1 : Int32) (x2 : Int32) : Option (Int32 × SF) :=
  zl (((2 : Int32) * x1) + x2) fun v1 =>
  zg (zin v1 16) <|
  zl (σ (j + 5) (v1 : Int32).toNatClampNeg) fun v2 =>
  if v2 = (-1) then (
  some (0, σ)
  ) else (
  zg (zin v2 8) <|
  zg (zin x1 8) <|
  zl ((σ (j + 9) (v2 : Int32).toNatClampNeg) &&& ((σ (j + 9) (x1 : Int32).toNatClampNeg) ||| ((1 : Int32) <<< (v2 &&& 31)))) fun v3 =>
  zg (zin v2 8) <|
  if v3 = (σ (j + 9) (v2 : Int32).toNatClampNeg) then (
  zg (zin v2 8) <|
  zl (zst σ (j + 9) (v2 : Int32).toNatClampNeg v3) fun σ4 =>
  some (0, σ4)
  ) else (
  zg (zin v2 8) <|
  zl (zst σ (j + 9) (v2 : Int32).toNatClampNeg v3) fun σ5 =>
  some (1, σ5)
  )
  )
def L_X0_findRulers_10 (j : Nat) : Nat → Int32 → SF → Option (Int32 × SF)
  | 0, _, _ => none
  | n + 1, y1, σ =>
    if (σ (j + 4) 6) ≤ y1 then (
    some (y1, σ)
    ) else (
    zg (zin y1 8) <|
    zg (zin y1 8) <|
    if (σ (j + 7) (y1 : Int32).toNatClampNeg) = 0 then (
    zg (zin (σ (j + 7) (y1 : Int32).toNatClampNeg) 8) <|
    zl (zst σ (j + 9) (σ (j + 7) (y1 : Int32).toNatClampNeg : Int32).toNatClampNeg 1) fun σ5 =>
    zl (y1 + 1) fun v6 =>
    L_X0_findRulers_10 j n v6 σ5
    ) else (
    zg (zin (σ (j + 7) (y1 : Int32).toNatClampNeg) 8) <|
    zl (zst σ (j + 9) (σ (j + 7) (y1 : Int32).toNatClampNeg : Int32).toNatClampNeg (σ (j + 4) 7)) fun σ3 =>
    zl (y1 + 1) fun v4 =>
    L_X0_findRulers_10 j n v4 σ3
    )
    )
def L_X0_findRulers_75 (j : Nat) (y2 : Int32) : Nat → Int32 → Int32 → SF → Option (Int32 × Int32 × SF)
  | 0, _, _, _ => none
  | n + 1, y1, y3, σ =>
    if y3 < 0 then (
    some (y1, y3, σ)
    ) else (
    zg (zin y3 8) <|
    zb2 (F_X0_strikeBehind σ j (σ (j + 7) (y3 : Int32).toNatClampNeg) 0) fun r13 σ12 =>
    zl (y1 ||| r13) fun v14 =>
    zg (zin y3 8) <|
    zb2 (F_X0_strikeBehind σ12 j (σ12 (j + 7) (y3 : Int32).toNatClampNeg) 1) fun r17 σ16 =>
    zl (v14 ||| r17) fun v18 =>
    zl (y3 + (-1)) fun v19 =>
    L_X0_findRulers_75 j y2 n v18 v19 σ16
    )
def L_X0_findRulers_56 (j : Nat) : Nat → Int32 → Int32 → SF → Option (Int32 × Int32 × SF)
  | 0, _, _, _ => none
  | n + 1, y1, y2, σ =>
    if y1 = 0 then (
    some (y1, y2, σ)
    ) else (
    if 64 < y2 then (
    some (y1, y2, σ)
    ) else (
    zl ((σ (j + 4) 6) - 1) fun v10 =>
    zb3 (L_X0_findRulers_75 j y2 100 0 v10 σ) fun v20 v21 σ22 =>
    zl (y2 + 1) fun v24 =>
    L_X0_findRulers_56 j n v20 v24 σ22
    )
    )
def F_X0_findRulers (σ : SF) (j : Nat) : Option SF :=
  zb (F_J7_fill_53178 σ (j + 9) 8 0) fun σ2 =>
  zb2 (L_X0_findRulers_10 j 100 0 σ2) fun v7 σ8 =>
  zb3 (L_X0_findRulers_56 j 100 1 0 σ8) fun v25 v26 σ27 =>
  some σ27
def L_X0_weighEdges_29 (j : Nat) : Nat → Int32 → Int32 → SF → Option (Int32 × Int32 × SF)
  | 0, _, _, _ => none
  | n + 1, y1, y2, σ =>
    if 16 ≤ y2 then (
    some (y1, y2, σ)
    ) else (
    zl (y2 / 2) fun v6 =>
    zg (zin y2 16) <|
    zl (σ (j + 5) (y2 : Int32).toNatClampNeg) fun v7 =>
    zg (zin y2 16) <|
    zl (zst σ (j + 6) (y2 : Int32).toNatClampNeg (-1)) fun σ8 =>
    if v7 = (-1) then (
    zl (y2 + 1) fun v9 =>
    L_X0_weighEdges_29 j n y1 v9 σ8
    ) else (
    if (((σ8 (j + 4) 7) >>> (v6 &&& 31)) &&& 1) = 0 then (
    zl (y2 + 1) fun v23 =>
    L_X0_weighEdges_29 j n y1 v23 σ8
    ) else (
    zl (zst σ8 (j + 4) 8 ((σ8 (j + 4) 8) + 1)) fun σ10 =>
    zl ((1 : Int32) <<< (v7 &&& 31)) fun v11 =>
    zg (zin v7 8) <|
    zg (zin v6 8) <|
    if (σ10 (j + 8) (v7 : Int32).toNatClampNeg) ≤ (σ10 (j + 8) (v6 : Int32).toNatClampNeg) then (
    zg (zin v6 8) <|
    if ((σ10 (j + 9) (v6 : Int32).toNatClampNeg) &&& v11) = 0 then (
    zg (zin y2 16) <|
    zl (zst σ10 (j + 6) (y2 : Int32).toNatClampNeg 2) fun σ12 =>
    zl (zst σ12 (j + 4) 10 ((σ12 (j + 4) 10) + 1)) fun σ13 =>
    zl (y2 + 1) fun v14 =>
    L_X0_weighEdges_29 j n y1 v14 σ13
    ) else (
    zg (zin y2 16) <|
    zl (zst σ10 (j + 6) (y2 : Int32).toNatClampNeg 1) fun σ15 =>
    zl (zst σ15 (j + 4) 9 ((σ15 (j + 4) 9) + 1)) fun σ16 =>
    zl (zst σ16 (j + 4) 11 ((σ16 (j + 4) 11) ||| v11)) fun σ17 =>
    zl (y2 + 1) fun v18 =>
    L_X0_weighEdges_29 j n y1 v18 σ17
    )
    ) else (
    zg (zin y2 16) <|
    zl (zst σ10 (j + 6) (y2 : Int32).toNatClampNeg 0) fun σ19 =>
    zl (zst σ19 (j + 4) 12 ((σ19 (j + 4) 12) ||| (y1 &&& v11))) fun σ20 =>
    zl (y1 ||| v11) fun v21 =>
    zl (y2 + 1) fun v22 =>
    L_X0_weighEdges_29 j n v21 v22 σ20
    )
    )
    )
    )
def F_X0_weighEdges (σ : SF) (j : Nat) : Option SF :=
  zl (zst σ (j + 4) 8 0) fun σ1 =>
  zl (zst σ1 (j + 4) 9 0) fun σ2 =>
  zl (zst σ2 (j + 4) 10 0) fun σ3 =>
  zl (zst σ3 (j + 4) 11 0) fun σ4 =>
  zl (zst σ4 (j + 4) 12 0) fun σ5 =>
  zb3 (L_X0_weighEdges_29 j 100 0 0 σ5) fun v24 v25 σ26 =>
  some σ26
def L_X0_look_31 (j : Nat) : Nat → Int32 → SF → Option (Int32 × SF)
  | 0, _, _ => none
  | n + 1, y2, σ =>
    if (σ (j + 4) 6) ≤ y2 then (
    some (y2, σ)
    ) else (
    zg (zin y2 8) <|
    zg (zin (σ (j + 7) (y2 : Int32).toNatClampNeg) 8) <|
    zl (zst σ (j + 8) (σ (j + 7) (y2 : Int32).toNatClampNeg : Int32).toNatClampNeg (((σ (j + 4) 6) - 1) - y2)) fun σ9 =>
    zl (y2 + 1) fun v10 =>
    L_X0_look_31 j n v10 σ9
    )
def F_X0_look (σ : SF) (j : Nat) (x1 : Int32) : Option SF :=
  zb (F_X0_findTargets σ j x1) fun σ2 =>
  zl (zst σ2 (j + 4) 7 0) fun σ3 =>
  zl (zst σ3 (j + 4) 6 0) fun σ4 =>
  zb (F_X0_doNode 9 σ4 j 0 0) fun σ6 =>
  zb (F_J7_fill_53178 σ6 (j + 8) 8 (-1)) fun σ8 =>
  zb2 (L_X0_look_31 j 100 0 σ8) fun v11 σ12 =>
  zb (F_X0_findRulers σ12 j) fun σ15 =>
  zb (F_X0_weighEdges σ15 j) fun σ17 =>
  some σ17
def F_X0_folds (σ : SF) (j : Nat) : Option Int32 :=
  if (σ (j + 4) 6) ≤ 0 then (
  some 0
  ) else (
  if (σ (j + 4) 10) = 0 then (
  some 1
  ) else (
  some 0
  )
  )
def F_X0_nodeAt (σ : SF) (j : Nat) (x1 : Int32) : Option Int32 :=
  if x1 < 0 then (
  some (-1)
  ) else (
  if (σ (j + 4) 6) ≤ x1 then (
  some (-1)
  ) else (
  zl (((σ (j + 4) 6) - 1) - x1) fun v1 =>
  zg (zin v1 8) <|
  some (σ (j + 7) (v1 : Int32).toNatClampNeg)
  )
  )
def F_X0_placeOf (σ : SF) (j : Nat) (x1 : Int32) : Option Int32 :=
  zb (F_X1_has σ j x1) fun r2 =>
  if r2 = 0 then (
  some (-1)
  ) else (
  zg (zin x1 8) <|
  some (σ (j + 8) (x1 : Int32).toNatClampNeg)
  )
def F_X6_isEnd  (x0 : Int32) : Option Int32 :=
  if x0 = 0 then (
  some 1
  ) else (
  if x0 = 1 then (
  some 1
  ) else (
  some 0
  )
  )
def F_X0_stateOf (σ : SF) (j : Nat) (x1 : Int32) (x2 : Int32) : Option Int32 :=
  zb (F_X1_has σ j x1) fun r2 =>
  if r2 = 0 then (
  some (-1)
  ) else (
  zb (F_X6_isEnd x2) fun r4 =>
  if r4 = 0 then (
  some (-1)
  ) else (
  zl (((2 : Int32) * x1) + x2) fun v5 =>
  zg (zin v5 16) <|
  some (σ (j + 6) (v5 : Int32).toNatClampNeg)
  )
  )
def F_X0_isHead (σ : SF) (j : Nat) (x1 : Int32) : Option Int32 :=
  zb (F_X1_has σ j x1) fun r2 =>
  if r2 = 0 then (
  some 0
  ) else (
  if (((σ (j + 4) 11) >>> (x1 &&& 31)) &&& 1) = 1 then (
  some 1
  ) else (
  some 0
  )
  )
def F_X0_isMerge (σ : SF) (j : Nat) (x1 : Int32) : Option Int32 :=
  zb (F_X1_has σ j x1) fun r2 =>
  if r2 = 0 then (
  some 0
  ) else (
  if (((σ (j + 4) 12) >>> (x1 &&& 31)) &&& 1) = 1 then (
  some 1
  ) else (
  some 0
  )
  )
def F_X0_rules (σ : SF) (j : Nat) (x1 : Int32) (x2 : Int32) : Option Int32 :=
  zb (F_X1_has σ j x1) fun r2 =>
  if r2 = 0 then (
  some 0
  ) else (
  zb (F_X1_has σ j x2) fun r4 =>
  if r4 = 0 then (
  some 0
  ) else (
  zg (zin x2 8) <|
  if (((σ (j + 9) (x2 : Int32).toNatClampNeg) >>> (x1 &&& 31)) &&& 1) = 1 then (
  some 1
  ) else (
  some 0
  )
  )
  )
def L_X0_ruledBy_4 (σ : SF) (j : Nat) (y1 : Int32) : Nat → Int32 → Int32 → Option (Int32 × Int32)
  | 0, _, _ => none
  | n + 1, y2, y3 =>
    if (σ j 0) ≤ y3 then (
    some (y2, y3)
    ) else (
    zb (F_X0_rules σ j y1 y3) fun r2 =>
    if r2 = 0 then (
    zl (y2 + 0) fun v3 =>
    zl (y3 + 1) fun v4 =>
    L_X0_ruledBy_4 σ j y1 n v3 v4
    ) else (
    zl (y2 + 1) fun v5 =>
    zl (y3 + 1) fun v6 =>
    L_X0_ruledBy_4 σ j y1 n v5 v6
    )
    )
def F_X0_ruledBy (σ : SF) (j : Nat) (x1 : Int32) : Option Int32 :=
  zb2 (L_X0_ruledBy_4 σ j x1 100 0 0) fun v7 v8 =>
  some v7
def L_X0_lordOf_28 (σ : SF) (j : Nat) (y2 : Int32) : Nat → Int32 → Option ((Int32) ⊕ (Int32))
  | 0, _ => none
  | n + 1, y3 =>
    if (σ j 0) ≤ y3 then (
    some (.inr y3)
    ) else (
    if y2 = 0 then (
    zl (y3 + 1) fun v4 =>
    L_X0_lordOf_28 σ j y2 n v4
    ) else (
    zg (zin y3 8) <|
    if (σ (j + 9) (y3 : Int32).toNatClampNeg) = y2 then (
    some (.inl y3)
    ) else (
    zl (y3 + 1) fun v5 =>
    L_X0_lordOf_28 σ j y2 n v5
    )
    )
    )
def F_X0_lordOf (σ : SF) (j : Nat) (x1 : Int32) : Option Int32 :=
  zb (F_X1_has σ j x1) fun r2 =>
  if r2 = 0 then (
  some (-1)
  ) else (
  zg (zin x1 8) <|
  zl ((σ (j + 9) (x1 : Int32).toNatClampNeg) &&& (((1 : Int32) <<< (x1 &&& 31)) ^^^ (-1))) fun v3 =>
  zs (L_X0_lordOf_28 σ j v3 100 0) (fun ρ9 => some ρ9) (fun u8 =>
  zb (some u8) fun v6 =>
  some (-1)
  )
  )
def F_X1_grow (σ : SF) (b : Nat) (x1 : Int32) : Option (Int32 × SF) :=
  if (σ b 0) < 8 then (
  zg (zin (σ b 0) 8) <|
  zl (zst σ (b + 1) (σ b 0 : Int32).toNatClampNeg x1) fun σ1 =>
  zg (zin (σ1 b 0) 8) <|
  zl (zst σ1 (b + 2) (σ1 b 0 : Int32).toNatClampNeg 0) fun σ2 =>
  zg (zin (σ2 b 0) 8) <|
  zl (zst σ2 (b + 3) (σ2 b 0 : Int32).toNatClampNeg 0) fun σ3 =>
  zl (zst σ3 b 0 ((σ3 b 0) + 1)) fun σ4 =>
  some (1, σ4)
  ) else (
  some (0, σ)
  )
def F_X1_put (σ : SF) (b : Nat) (x1 : Int32) (x2 : Int32) (x3 : Int32) : Option SF :=
  zb (F_X1_has σ b x1) fun r2 =>
  if r2 = 0 then (
  some σ
  ) else (
  if x2 = 0 then (
  zg (zin x1 8) <|
  zl (zst σ (b + 2) (x1 : Int32).toNatClampNeg x3) fun σ4 =>
  some σ4
  ) else (
  zg (zin x1 8) <|
  zl (zst σ (b + 3) (x1 : Int32).toNatClampNeg x3) fun σ3 =>
  some σ3
  )
  )
def F_X1_copyFrom (σ : SF) (b : Nat) (b2 : Nat) : Option SF :=
  zl (zst σ b 0 (σ b2 0)) fun σ1 =>
  zl (zsr σ1 (b + 1) (va_cpy (σ1 (b2 + 1)) (σ1 (b + 1)) 0 0 (8 : Int32).toNatClampNeg)) fun σ2 =>
  zl (zsr σ2 (b + 2) (va_cpy (σ2 (b2 + 2)) (σ2 (b + 2)) 0 0 (8 : Int32).toNatClampNeg)) fun σ3 =>
  zl (zsr σ3 (b + 3) (va_cpy (σ3 (b2 + 3)) (σ3 (b + 3)) 0 0 (8 : Int32).toNatClampNeg)) fun σ4 =>
  some σ4
def F_X2_add (σ : SF)  (x1 : Int32) : Option (Int32 × SF) :=
  if (σ 1 1) < 34 then (
  zg (zin (σ 1 1) 34) <|
  zl (zst σ 2 (σ 1 1 : Int32).toNatClampNeg x1) fun σ1 =>
  zl (zst σ1 1 1 ((σ1 1 1) + 1)) fun σ2 =>
  some (1, σ2)
  ) else (
  some (0, σ)
  )
def F_X6_isKind  (x0 : Int32) : Option Int32 :=
  if x0 < 0 then (
  some 0
  ) else (
  if 5 ≤ x0 then (
  some 0
  ) else (
  some 1
  )
  )
def L_X2_readInto_25 : Nat → Int32 → Int32 → Int32 → Int32 → SF → Option ((Int32 × SF) ⊕ (Int32 × Int32 × Int32 × Int32 × SF))
  | 0, _, _, _, _, _ => none
  | n + 1, y2, y3, y4, y5, σ =>
    if (σ 1 1) ≤ y5 then (
    some (.inr (y2, y3, y4, y5, σ))
    ) else (
    zg (zin y5 34) <|
    zl (σ 2 (y5 : Int32).toNatClampNeg) fun v4 =>
    if y4 ≤ y3 then (
    if y2 = 0 then (
    if v4 = 44 then (
    if (σ 31 0) < 8 then (
    zl (y5 + 1) fun v5 =>
    L_X2_readInto_25 n 1 y3 y4 v5 σ
    ) else (
    some (.inl (y5, σ))
    )
    ) else (
    some (.inl (y5, σ))
    )
    ) else (
    zl (kx (((v4 : Int32).toUInt32 % 65536).toInt32)) fun r6 =>
    zb (F_X6_isKind r6) fun r8 =>
    if r8 = 0 then (
    some (.inl (y5, σ))
    ) else (
    zb2 (F_X1_grow σ 31 r6) fun r11 σ10 =>
    if r11 = 0 then (
    some (.inl (y5, σ10))
    ) else (
    zb (F_X6_endsOf r6) fun r13 =>
    zl (y5 + 1) fun v14 =>
    L_X2_readInto_25 n 0 0 r13 v14 σ10
    )
    )
    )
    ) else (
    if v4 < 48 then (
    some (.inl (y5, σ))
    ) else (
    if v4 ≤ 55 then (
    zb (F_X1_put σ 31 ((σ 31 0) - 1) y3 (v4 - 48)) fun σ16 =>
    zl (zst σ16 1 3 (if (σ16 1 3) < (v4 - 48) then (v4 - 48) else (σ16 1 3))) fun σ17 =>
    zl (y3 + 1) fun v18 =>
    zl (y5 + 1) fun v19 =>
    L_X2_readInto_25 n y2 v18 y4 v19 σ17
    ) else (
    some (.inl (y5, σ))
    )
    )
    )
    )
def F_X2_readInto (σ : SF)  : Option (Int32 × SF) :=
  zl (zst σ 31 0 0) fun σ1 =>
  zl (zst σ1 1 2 0) fun σ2 =>
  zl (zst σ2 1 3 0) fun σ3 =>
  zs (L_X2_readInto_25 100 1 0 0 0 σ3) (fun ρ27 => some ρ27) (fun u26 =>
  zb5 (some u26) fun v20 v21 v22 v23 σ24 =>
  if v20 = 0 then (
  if v21 = v22 then (
  zl (zst σ24 1 2 1) fun σ30 =>
  some (σ30 1 1, σ30)
  ) else (
  zl (zst σ24 1 2 0) fun σ29 =>
  some (σ29 1 1, σ29)
  )
  ) else (
  zl (zst σ24 1 2 0) fun σ28 =>
  some (σ28 1 1, σ28)
  )
  )
def F_X3_add (σ : SF) (b : Nat) (x1 : Int32) (x2 : Int32) (x3 : Int32) : Option (Int32 × SF) :=
  if (σ b 0) < 6 then (
  zg (zin (σ b 0) 6) <|
  zl (zst σ (b + 1) (σ b 0 : Int32).toNatClampNeg x1) fun σ1 =>
  zg (zin (σ1 b 0) 6) <|
  zl (zst σ1 (b + 2) (σ1 b 0 : Int32).toNatClampNeg x2) fun σ2 =>
  zg (zin (σ2 b 0) 6) <|
  zl (zst σ2 (b + 3) (σ2 b 0 : Int32).toNatClampNeg x3) fun σ3 =>
  zl (zst σ3 b 0 ((σ3 b 0) + 1)) fun σ4 =>
  some (1, σ4)
  ) else (
  some (0, σ)
  )
def F_X3_copyFrom (σ : SF) (b : Nat) (b2 : Nat) : Option SF :=
  zl (zst σ b 0 (σ b2 0)) fun σ1 =>
  zl (zsr σ1 (b + 1) (va_cpy (σ1 (b2 + 1)) (σ1 (b + 1)) 0 0 (6 : Int32).toNatClampNeg)) fun σ2 =>
  zl (zsr σ2 (b + 2) (va_cpy (σ2 (b2 + 2)) (σ2 (b + 2)) 0 0 (6 : Int32).toNatClampNeg)) fun σ3 =>
  zl (zsr σ3 (b + 3) (va_cpy (σ3 (b2 + 3)) (σ3 (b + 3)) 0 0 (6 : Int32).toNatClampNeg)) fun σ4 =>
  some σ4
def F_X6_doesAt  (x0 : Int32) (x1 : Int32) (x2 : Int32) : Option Int32 :=
  if x0 = 1 then (
  some x2
  ) else (
  if x0 = 2 then (
  some 2
  ) else (
  if x0 = 3 then (
  if (x1 - x1 / 2 * 2) = 0 then (
  some 1
  ) else (
  some 0
  )
  ) else (
  if x0 = 4 then (
  if (x1 - x1 / 3 * 3) = 0 then (
  some 1
  ) else (
  some 0
  )
  ) else (
  some 0
  )
  )
  )
  )
def L_X3_sortsThatDo_4 (y0 : Int32) (y1 : Int32) : Nat → Int32 → Int32 → Option (Int32 × Int32)
  | 0, _, _ => none
  | n + 1, y2, y3 =>
    if 5 ≤ y3 then (
    some (y2, y3)
    ) else (
    zb (F_X6_doesAt y3 y0 0) fun r2 =>
    if r2 = y1 then (
    zl (y2 ||| ((1 : Int32) <<< (y3 &&& 31))) fun v3 =>
    zl (y3 + 1) fun v4 =>
    L_X3_sortsThatDo_4 y0 y1 n v3 v4
    ) else (
    zb (F_X6_doesAt y3 y0 1) fun r6 =>
    if r6 = y1 then (
    zl (y2 ||| ((1 : Int32) <<< (y3 &&& 31))) fun v8 =>
    zl (y3 + 1) fun v9 =>
    L_X3_sortsThatDo_4 y0 y1 n v8 v9
    ) else (
    zl (y3 + 1) fun v7 =>
    L_X3_sortsThatDo_4 y0 y1 n y2 v7
    )
    )
    )
def F_X3_sortsThatDo  (x0 : Int32) (x1 : Int32) : Option Int32 :=
  zb2 (L_X3_sortsThatDo_4 x0 x1 100 0 0) fun v10 v11 =>
  some v10
def L_X3_sortsOf_5 (σ : SF) (b : Nat) (y1 : Int32) : Nat → Int32 → Int32 → Option (Int32 × Int32)
  | 0, _, _ => none
  | n + 1, y2, y3 =>
    if (σ b 0) ≤ y3 then (
    some (y2, y3)
    ) else (
    zg (zin y3 6) <|
    if (σ (b + 1) (y3 : Int32).toNatClampNeg) = y1 then (
    zg (zin y3 6) <|
    zg (zin y3 6) <|
    zb (F_X3_sortsThatDo (σ (b + 2) (y3 : Int32).toNatClampNeg) (σ (b + 3) (y3 : Int32).toNatClampNeg)) fun r3 =>
    zl (y2 &&& r3) fun v4 =>
    zl (y3 + 1) fun v5 =>
    L_X3_sortsOf_5 σ b y1 n v4 v5
    ) else (
    zl (y3 + 1) fun v1 =>
    L_X3_sortsOf_5 σ b y1 n y2 v1
    )
    )
def F_X3_sortsOf (σ : SF) (b : Nat) (x1 : Int32) : Option Int32 :=
  zb2 (L_X3_sortsOf_5 σ b x1 100 31 0) fun v6 v7 =>
  some v6
def F_J6_bitCount_0f7a4  (x0 : Int32) : Option Int32 :=
  zl (x0 - ((((x0).toUInt32 >>> ((1 : Int32).toUInt32 &&& Int32.toUInt32 31)).toInt32) &&& 1431655765)) fun v1 =>
  zl ((v1 &&& 858993459) + ((((v1).toUInt32 >>> ((2 : Int32).toUInt32 &&& Int32.toUInt32 31)).toInt32) &&& 858993459)) fun v2 =>
  zl ((v2 + (((v2).toUInt32 >>> ((4 : Int32).toUInt32 &&& Int32.toUInt32 31)).toInt32)) &&& 252645135) fun v3 =>
  zl (v3 + (((v3).toUInt32 >>> ((8 : Int32).toUInt32 &&& Int32.toUInt32 31)).toInt32)) fun v4 =>
  zl (v4 + (((v4).toUInt32 >>> ((16 : Int32).toUInt32 &&& Int32.toUInt32 31)).toInt32)) fun v5 =>
  some (v5 &&& 63)
def L_X3_askFor_31 (σ : SF) (b : Nat) (y2 : Int32) (y3 : Int32) (y4 : Int32) (y5 : Int32) : Nat → Int32 → Int32 → Option (Int32 × Int32)
  | 0, _, _ => none
  | n + 1, y6, y7 =>
    if 2 < y7 then (
    some (y6, y7)
    ) else (
    zb (F_X3_sortsThatDo y5 y7) fun r4 =>
    zb (F_J6_bitCount_0f7a4 (y2 &&& r4)) fun r6 =>
    zl ((if y6 < r6 then r6 else y6)) fun v7 =>
    zl (y7 + 1) fun v8 =>
    L_X3_askFor_31 σ b y2 y3 y4 y5 n v7 v8
    )
def L_X3_askFor_15 (σ : SF) (b : Nat) (y2 : Int32) : Nat → Int32 → Int32 → Int32 → Option (Int32 × Int32 × Int32)
  | 0, _, _, _ => none
  | n + 1, y3, y4, y5 =>
    if 3 < y5 then (
    some (y3, y4, y5)
    ) else (
    if y2 = 0 then (
    some (y3, y4, y5)
    ) else (
    zb2 (L_X3_askFor_31 σ b y2 y3 y4 y5 100 0 0) fun v9 v10 =>
    if y4 ≤ v9 then (
    zl (y5 + 1) fun v12 =>
    L_X3_askFor_15 σ b y2 n y3 y4 v12
    ) else (
    zl (y5 + 1) fun v13 =>
    L_X3_askFor_15 σ b y2 n y5 v9 v13
    )
    )
    )
def F_X3_askFor (σ : SF) (b : Nat) (x1 : Int32) : Option Int32 :=
  zb (F_X3_sortsOf σ b x1) fun r2 =>
  zb3 (L_X3_askFor_15 σ b r2 100 (-1) 6 1) fun v14 v15 v16 =>
  some v14
def F_X4_put (σ : SF)  (x1 : Int32) : Option SF :=
  if 72 ≤ (σ 13 3) then (
  some σ
  ) else (
  zg (zin (σ 13 3) 72) <|
  zl (zst σ 14 (σ 13 3 : Int32).toNatClampNeg x1) fun σ1 =>
  zl (zst σ1 13 3 ((σ1 13 3) + 1)) fun σ2 =>
  some σ2
  )
def F_X4_putOpening (σ : SF)  (x1 : Int32) : Option SF :=
  zb (F_X4_put σ x1) fun σ2 =>
  if 16 ≤ (σ2 13 8) then (
  zl (zst σ2 13 6 (if (σ2 13 6) < (σ2 13 8) then (σ2 13 8) else (σ2 13 6))) fun σ3 =>
  some σ3
  ) else (
  zg (zin (σ2 13 8) 16) <|
  zl (zst σ2 15 (σ2 13 8 : Int32).toNatClampNeg x1) fun σ4 =>
  zl (zst σ4 13 8 ((σ4 13 8) + 1)) fun σ5 =>
  zl (zst σ5 13 6 (if (σ5 13 6) < (σ5 13 8) then (σ5 13 8) else (σ5 13 6))) fun σ6 =>
  some σ6
  )
def F_X4_isBlockIn (σ : SF)  (x1 : Int32) (x2 : Int32) : Option Int32 :=
  zb (F_X0_isMerge σ 3 x2) fun r2 =>
  if r2 = 0 then (
  some 0
  ) else (
  zb (F_X0_lordOf σ 3 x2) fun r4 =>
  if r4 = x1 then (
  some 1
  ) else (
  some 0
  )
  )
def L_X4_depthOf_2 (σ : SF) (y1 : Int32) : Nat → Int32 → Option (Int32)
  | 0, _ => none
  | n + 1, y2 =>
    if (σ 13 8) ≤ y2 then (
    some y2
    ) else (
    zl (((σ 13 8) - 1) - y2) fun v1 =>
    zg (zin v1 16) <|
    if (σ 15 (v1 : Int32).toNatClampNeg) = y1 then (
    some y2
    ) else (
    zl (y2 + 1) fun v2 =>
    L_X4_depthOf_2 σ y1 n v2
    )
    )
def F_X4_depthOf (σ : SF)  (x1 : Int32) : Option Int32 :=
  zb (L_X4_depthOf_2 σ x1 100 0) fun v3 =>
  some v3
def F_X4_putWayOut (σ : SF)  (x1 : Int32) (x2 : Int32) : Option SF :=
  zb (F_X4_put σ (x1 + x2)) fun σ2 =>
  zl (zst σ2 13 4 ((σ2 13 4) + 1)) fun σ3 =>
  zl (zst σ3 13 5 ((σ3 13 5) + x2)) fun σ4 =>
  some σ4
def F_X4_putBranch (rec : SF → Int32 → Int32 → Option SF) (σ : SF)  (x1 : Int32) (x2 : Int32) (x3 : Int32) : Option SF :=
  zb (F_X1_target σ 3 x1 x2) fun r2 =>
  zb (F_X0_stateOf σ 3 x1 x2) fun r4 =>
  if r4 = 0 then (
  zb (F_X0_isMerge σ 3 r2) fun r6 =>
  if r6 = 0 then (
  zb (rec σ r2 (x3 + 1)) fun σ8 =>
  some σ8
  ) else (
  zb (F_X4_depthOf σ ((200 : Int32) + r2)) fun r10 =>
  zb (F_X4_putWayOut σ 600 r10) fun σ12 =>
  some σ12
  )
  ) else (
  zb (F_X4_depthOf σ ((100 : Int32) + r2)) fun r14 =>
  zb (F_X4_putWayOut σ 500 r14) fun σ16 =>
  some σ16
  )
def F_X4_putClosing (σ : SF)  (x1 : Int32) : Option SF :=
  zb (F_X4_put σ x1) fun σ2 =>
  zl (zst σ2 13 8 (if 0 < ((σ2 13 8) - 1) then ((σ2 13 8) - 1) else 0)) fun σ3 =>
  some σ3
def L_X4_putWithin_10 (rec : SF → Int32 → Int32 → Option SF) (y1 : Int32) (y2 : Int32) : Nat → Int32 → SF → Option (Int32 × SF)
  | 0, _, _ => none
  | n + 1, y3, σ =>
    if y3 ≤ 0 then (
    some (y3, σ)
    ) else (
    zb (F_X0_nodeAt σ 3 y3) fun r3 =>
    zb (F_X4_isBlockIn σ y1 r3) fun r5 =>
    if r5 = 0 then (
    zl (y3 + (-1)) fun v6 =>
    L_X4_putWithin_10 rec y1 y2 n v6 σ
    ) else (
    zb (F_X0_nodeAt σ 3 y3) fun r8 =>
    zb (F_X4_putOpening σ ((200 : Int32) + r8)) fun σ10 =>
    zl (y3 + (-1)) fun v11 =>
    L_X4_putWithin_10 rec y1 y2 n v11 σ10
    )
    )
def L_X4_putWithin_111 (rec : SF → Int32 → Int32 → Option SF) (y1 : Int32) (y2 : Int32) : Nat → Int32 → SF → Option (Int32 × SF)
  | 0, _, _ => none
  | n + 1, y4, σ =>
    if (σ (3 + 4) 6) ≤ y4 then (
    some (y4, σ)
    ) else (
    zb (F_X0_nodeAt σ 3 y4) fun r20 =>
    zb (F_X4_isBlockIn σ y1 r20) fun r22 =>
    if r22 = 0 then (
    zl (y4 + 1) fun v23 =>
    L_X4_putWithin_111 rec y1 y2 n v23 σ
    ) else (
    zb (F_X4_putClosing σ 301) fun σ25 =>
    zb (F_X0_nodeAt σ25 3 y4) fun r27 =>
    zb (rec σ25 r27 (y2 + 1)) fun σ29 =>
    zl (y4 + 1) fun v30 =>
    L_X4_putWithin_111 rec y1 y2 n v30 σ29
    )
    )
def F_X4_putWithin (rec : SF → Int32 → Int32 → Option SF) (σ : SF)  (x1 : Int32) (x2 : Int32) : Option SF :=
  zl ((σ (3 + 4) 6) - 1) fun v1 =>
  zb2 (L_X4_putWithin_10 rec x1 x2 100 v1 σ) fun v12 σ13 =>
  zb (F_X4_put σ13 x1) fun σ16 =>
  zg (zin x1 8) <|
  zb (F_X6_endsOf (σ16 (3 + 1) (x1 : Int32).toNatClampNeg)) fun r18 =>
  if r18 < 1 then (
  if r18 = 2 then (
  zb (F_X4_put σ16 400) fun σ35 =>
  zb (F_X4_putBranch rec σ35 x1 1 x2) fun σ37 =>
  zb (F_X4_put σ37 401) fun σ39 =>
  zb2 (L_X4_putWithin_111 rec x1 x2 100 1 σ39) fun v40 σ41 =>
  some σ41
  ) else (
  zb2 (L_X4_putWithin_111 rec x1 x2 100 1 σ16) fun v31 σ32 =>
  some σ32
  )
  ) else (
  zb (F_X4_putBranch rec σ16 x1 0 x2) fun σ44 =>
  if r18 = 2 then (
  zb (F_X4_put σ44 400) fun σ49 =>
  zb (F_X4_putBranch rec σ49 x1 1 x2) fun σ51 =>
  zb (F_X4_put σ51 401) fun σ53 =>
  zb2 (L_X4_putWithin_111 rec x1 x2 100 1 σ53) fun v54 σ55 =>
  some σ55
  ) else (
  zb2 (L_X4_putWithin_111 rec x1 x2 100 1 σ44) fun v45 σ46 =>
  some σ46
  )
  )
def B_X4_putTree (rec : SF → Int32 → Int32 → Option SF) (σ : SF)  (x1 : Int32) (x2 : Int32) : Option SF :=
  zb (F_X1_has σ 3 x1) fun r2 =>
  if r2 = 0 then (
  some σ
  ) else (
  if x2 < 8 then (
  zb (F_X0_isHead σ 3 x1) fun r4 =>
  if r4 = 0 then (
  zb (F_X4_putWithin rec σ x1 x2) fun σ6 =>
  if r4 = 0 then (
  some σ6
  ) else (
  zb (F_X4_putClosing σ6 300) fun σ8 =>
  some σ8
  )
  ) else (
  zb (F_X4_putOpening σ ((100 : Int32) + x1)) fun σ10 =>
  zb (F_X4_putWithin rec σ10 x1 x2) fun σ12 =>
  if r4 = 0 then (
  some σ12
  ) else (
  zb (F_X4_putClosing σ12 300) fun σ14 =>
  some σ14
  )
  )
  ) else (
  some σ
  )
  )
def F_X4_putTree : Nat → SF → Int32 → Int32 → Option SF
  | 0, _, _, _ => none
  | n + 1, σ, x1, x2 => B_X4_putTree (fun σ x1 x2 => F_X4_putTree n σ x1 x2) σ x1 x2
def F_X4_write (σ : SF)  : Option SF :=
  zl (zst σ 13 3 0) fun σ1 =>
  zl (zst σ1 13 4 0) fun σ2 =>
  zl (zst σ2 13 5 0) fun σ3 =>
  zl (zst σ3 13 6 0) fun σ4 =>
  zl (zst σ4 13 8 0) fun σ5 =>
  zb (F_X0_folds σ5 3) fun r7 =>
  if r7 = 0 then (
  some σ5
  ) else (
  zb (F_X4_putTree 9 σ5 0 0) fun σ9 =>
  some σ9
  )
def L_X5_go_18 : Nat → Int32 → Int32 → SF → Option (Int32 × Int32 × SF)
  | 0, _, _, _ => none
  | n + 1, y3, y4, σ =>
    if 30 ≤ (σ 16 1) then (
    some (y3, y4, σ)
    ) else (
    zb (F_X1_has σ 3 y4) fun r5 =>
    if r5 = 0 then (
    some (y3, y4, σ)
    ) else (
    zg (zin (σ 16 1) 30) <|
    zl (zst σ 17 (σ 16 1 : Int32).toNatClampNeg y4) fun σ6 =>
    zl (zst σ6 16 1 ((σ6 16 1) + 1)) fun σ7 =>
    zg (zin y4 8) <|
    zg (zin y4 8) <|
    zl (zst σ7 18 (y4 : Int32).toNatClampNeg ((σ7 18 (y4 : Int32).toNatClampNeg) + 1)) fun σ8 =>
    zg (zin y4 8) <|
    zg (zin y4 8) <|
    zb (F_X6_doesAt (σ8 (3 + 1) (y4 : Int32).toNatClampNeg) (σ8 18 (y4 : Int32).toNatClampNeg) (y3 &&& 1)) fun r10 =>
    zg (zin y4 8) <|
    if (σ8 (3 + 1) (y4 : Int32).toNatClampNeg) = 1 then (
    zl (y3 >>> (1 &&& 31)) fun v13 =>
    if r10 = 2 then (
    L_X5_go_18 n v13 (-1) σ8
    ) else (
    zb (F_X1_target σ8 3 y4 r10) fun r15 =>
    L_X5_go_18 n v13 r15 σ8
    )
    ) else (
    if r10 = 2 then (
    L_X5_go_18 n y3 (-1) σ8
    ) else (
    zb (F_X1_target σ8 3 y4 r10) fun r12 =>
    L_X5_go_18 n y3 r12 σ8
    )
    )
    )
    )
def F_X5_go (σ : SF)  (x2 : Int32) : Option SF :=
  zb (F_J7_fill_53178 σ 18 8 0) fun σ2 =>
  zl (zst σ2 16 1 0) fun σ3 =>
  zb3 (L_X5_go_18 100 x2 0 σ3) fun v16 v17 σ18 =>
  some σ18
def F_X6_letter (σ : SF)  (x1 : Int32) : Option (Int32 × SF) :=
  if x1 < 32 then (
  some ((-102), σ)
  ) else (
  if x1 ≤ 126 then (
  zb2 (F_X2_add σ x1) fun r3 σ2 =>
  if r3 = 0 then (
  some ((-104), σ2)
  ) else (
  some (σ2 1 1, σ2)
  )
  ) else (
  some ((-102), σ)
  )
  )
def F_X6_blank (σ : SF)  : Option (Int32 × SF) :=
  zl (σ 1 1) fun v1 =>
  zl (zst σ 1 1 0) fun σ2 =>
  some (v1, σ2)
def F_X6_fault (σ : SF)  : Option (Int32 × SF) :=
  zb2 (F_X2_readInto σ) fun r3 σ2 =>
  some (r3, σ2)
def F_X6_lookAnew (σ : SF)  : Option SF :=
  zb (F_X0_look σ 3 0) fun σ2 =>
  zb (F_X4_write σ2) fun σ4 =>
  some σ4
def F_X6_graph (σ : SF)  : Option (Int32 × SF) :=
  zb2 (F_X2_readInto σ) fun r3 σ2 =>
  if r3 < (σ2 1 1) then (
  some ((-103), σ2)
  ) else (
  if (σ2 1 2) = 0 then (
  some ((-103), σ2)
  ) else (
  if (σ2 1 3) < (σ2 31 0) then (
  zl (zst σ2 1 1 0) fun σ4 =>
  zl (zst σ4 0 11 ((σ4 0 11) + 1)) fun σ5 =>
  zl (zst σ5 0 10 0) fun σ6 =>
  zl (zst σ6 16 1 0) fun σ7 =>
  zl (zst σ7 19 0 0) fun σ8 =>
  zb (F_X1_copyFrom σ8 3 31) fun σ10 =>
  zb (F_X6_lookAnew σ10) fun σ12 =>
  some (σ12 3 0, σ12)
  ) else (
  some ((-103), σ2)
  )
  )
  )
def F_X6_node (σ : SF)  (x1 : Int32) (x2 : Int32) : Option Int32 :=
  zb (F_X1_has σ 3 x1) fun r2 =>
  if r2 = 0 then (
  some (-101)
  ) else (
  if x2 = 0 then (
  zg (zin x1 8) <|
  some (σ (3 + 1) (x1 : Int32).toNatClampNeg)
  ) else (
  if x2 = 1 then (
  zg (zin x1 8) <|
  some (σ (3 + 2) (x1 : Int32).toNatClampNeg)
  ) else (
  if x2 = 2 then (
  zg (zin x1 8) <|
  some (σ (3 + 3) (x1 : Int32).toNatClampNeg)
  ) else (
  if x2 = 3 then (
  zb (F_X0_placeOf σ 3 x1) fun r4 =>
  some r4
  ) else (
  if x2 = 4 then (
  zb (F_X0_lordOf σ 3 x1) fun r6 =>
  some r6
  ) else (
  if x2 = 5 then (
  zb (F_X0_isHead σ 3 x1) fun r8 =>
  if r8 = 0 then (
  some 0
  ) else (
  some 1
  )
  ) else (
  if x2 = 6 then (
  zb (F_X0_isMerge σ 3 x1) fun r10 =>
  if r10 = 0 then (
  some 0
  ) else (
  some 1
  )
  ) else (
  if x2 = 7 then (
  zb (F_X0_ruledBy σ 3 x1) fun r12 =>
  some r12
  ) else (
  if x2 = 8 then (
  zb (F_X3_sortsOf σ 19 x1) fun r14 =>
  some r14
  ) else (
  if x2 = 9 then (
  zb (F_X3_askFor σ 19 x1) fun r16 =>
  some r16
  ) else (
  some (-102)
  )
  )
  )
  )
  )
  )
  )
  )
  )
  )
  )
def F_X6_as (σ : SF)  (x1 : Int32) (x2 : Int32) : Option Int32 :=
  zb (F_X1_has σ 3 x1) fun r2 =>
  if r2 = 0 then (
  some (-101)
  ) else (
  zb (F_X6_isKind x2) fun r4 =>
  if r4 = 0 then (
  some (-102)
  ) else (
  zg (zin x1 8) <|
  zl (σ (3 + 1) (x1 : Int32).toNatClampNeg) fun v5 =>
  if x2 = v5 then (
  some x1
  ) else (
  if x2 = 0 then (
  some x1
  ) else (
  if x2 = 3 then (
  if v5 = 4 then (
  some x1
  ) else (
  some (-1)
  )
  ) else (
  some (-1)
  )
  )
  )
  )
  )
def F_X6_dominates (σ : SF)  (x1 : Int32) (x2 : Int32) : Option Int32 :=
  zb (F_X1_has σ 3 x1) fun r2 =>
  if r2 = 0 then (
  some (-101)
  ) else (
  zb (F_X1_has σ 3 x2) fun r4 =>
  if r4 = 0 then (
  some (-101)
  ) else (
  zb (F_X0_rules σ 3 x1 x2) fun r6 =>
  if r6 = 0 then (
  some 0
  ) else (
  some 1
  )
  )
  )
def F_X6_edge (σ : SF)  (x1 : Int32) (x2 : Int32) : Option Int32 :=
  zb (F_X1_has σ 3 x1) fun r2 =>
  if r2 = 0 then (
  some (-101)
  ) else (
  zb (F_X6_isEnd x2) fun r4 =>
  if r4 = 0 then (
  some (-102)
  ) else (
  zb (F_X0_stateOf σ 3 x1 x2) fun r6 =>
  some r6
  )
  )
def F_X6_aim (σ : SF)  (x1 : Int32) (x2 : Int32) (x3 : Int32) : Option (Int32 × SF) :=
  zb (F_X1_has σ 3 x1) fun r2 =>
  if r2 = 0 then (
  some ((-101), σ)
  ) else (
  zb (F_X1_has σ 3 x3) fun r4 =>
  if r4 = 0 then (
  some ((-101), σ)
  ) else (
  zb (F_X6_isEnd x2) fun r6 =>
  if r6 = 0 then (
  some ((-102), σ)
  ) else (
  zb (F_X1_target σ 3 x1 x2) fun r8 =>
  zb (F_X1_put σ 3 x1 x2 x3) fun σ10 =>
  zb (F_X6_lookAnew σ10) fun σ12 =>
  some (r8, σ12)
  )
  )
  )
def F_X6_be (σ : SF)  (x1 : Int32) (x2 : Int32) : Option (Int32 × SF) :=
  zb (F_X1_has σ 3 x1) fun r2 =>
  if r2 = 0 then (
  some ((-101), σ)
  ) else (
  zb (F_X6_isKind x2) fun r4 =>
  if r4 = 0 then (
  some ((-102), σ)
  ) else (
  zg (zin x1 8) <|
  zl (σ (3 + 1) (x1 : Int32).toNatClampNeg) fun v5 =>
  zg (zin x1 8) <|
  zl (zst σ (3 + 1) (x1 : Int32).toNatClampNeg x2) fun σ6 =>
  zb (F_X6_lookAnew σ6) fun σ8 =>
  some (v5, σ8)
  )
  )
def F_X6_walk (σ : SF)  (x1 : Int32) : Option (Int32 × SF) :=
  if 0 ≤ x1 then (
  if (σ 3 0) = 0 then (
  some ((-103), σ)
  ) else (
  zb (F_X5_go σ x1) fun σ2 =>
  some (σ2 16 1, σ2)
  )
  ) else (
  some ((-102), σ)
  )
def F_X6_visit (σ : SF)  (x1 : Int32) : Option Int32 :=
  if x1 < 0 then (
  some (-101)
  ) else (
  if (σ 16 1) ≤ x1 then (
  some (-101)
  ) else (
  zg (zin x1 30) <|
  some (σ 17 (x1 : Int32).toNatClampNeg)
  )
  )
def F_X6_sign (σ : SF)  (x1 : Int32) : Option Int32 :=
  if x1 < 0 then (
  some (-101)
  ) else (
  if (σ 13 3) ≤ x1 then (
  some (-101)
  ) else (
  zg (zin x1 72) <|
  some (σ 14 (x1 : Int32).toNatClampNeg)
  )
  )
def F_X6_fold (σ : SF)  (x1 : Int32) : Option Int32 :=
  if x1 < 0 then (
  some (-102)
  ) else (
  if x1 < 4 then (
  if (σ 3 0) = 0 then (
  some (-103)
  ) else (
  zb (F_X0_folds σ 3) fun r2 =>
  if r2 = 0 then (
  some (-1)
  ) else (
  if x1 = 0 then (
  some (σ 13 3)
  ) else (
  if x1 = 1 then (
  some (σ 13 4)
  ) else (
  if x1 = 2 then (
  some (σ 13 5)
  ) else (
  some (σ 13 6)
  )
  )
  )
  )
  )
  ) else (
  some (-102)
  )
  )
def L_X6_leastLeftOut_33 (rec : SF → Int32 → Int32 → Int32 → Option (Int32 × SF)) (y1 : Int32) (y2 : Int32) (y3 : Int32) : Nat → Int32 → SF → Option ((Int32 × SF) ⊕ (Int32 × SF))
  | 0, _, _ => none
  | n + 1, y4, σ =>
    if y2 ≤ y4 then (
    some (.inr (y4, σ))
    ) else (
    zb (F_X0_stateOf σ 3 (y4 / 2) (y4 - y4 / 2 * 2)) fun r3 =>
    if r3 = (-1) then (
    zl (y4 + 1) fun v4 =>
    L_X6_leastLeftOut_33 rec y1 y2 y3 n v4 σ
    ) else (
    zb2 (rec σ (y1 - 1) y4 (y3 ||| ((1 : Int32) <<< (y4 &&& 31)))) fun r7 σ6 =>
    if r7 = (-1) then (
    zl (y4 + 1) fun v8 =>
    L_X6_leastLeftOut_33 rec y1 y2 y3 n v8 σ6
    ) else (
    some (.inl (r7, σ6))
    )
    )
    )
def B_X6_leastLeftOut (rec : SF → Int32 → Int32 → Int32 → Option (Int32 × SF)) (σ : SF)  (x1 : Int32) (x2 : Int32) (x3 : Int32) : Option (Int32 × SF) :=
  if 0 < x1 then (
  zl (x1 - 1) fun v1 =>
  zs (L_X6_leastLeftOut_33 rec x1 x2 x3 100 v1 σ) (fun ρ13 => some ρ13) (fun u12 =>
  zb2 (some u12) fun v9 σ10 =>
  some ((-1), σ10)
  )
  ) else (
  zb (F_X0_look σ 31 x3) fun σ15 =>
  zb (F_X0_folds σ15 31) fun r17 =>
  if r17 = 0 then (
  some ((-1), σ15)
  ) else (
  some (x3, σ15)
  )
  )
def F_X6_leastLeftOut : Nat → SF → Int32 → Int32 → Int32 → Option (Int32 × SF)
  | 0, _, _, _, _ => none
  | n + 1, σ, x1, x2, x3 => B_X6_leastLeftOut (fun σ x1 x2 x3 => F_X6_leastLeftOut n σ x1 x2 x3) σ x1 x2 x3
def L_X6_fewestLeftOut_15 : Nat → Int32 → Int32 → SF → Option (Int32 × Int32 × SF)
  | 0, _, _, _ => none
  | n + 1, y1, y2, σ =>
    if 3 < y2 then (
    some (y1, y2, σ)
    ) else (
    if y1 = (-1) then (
    zb2 (F_X6_leastLeftOut 5 σ y2 16 0) fun r5 σ4 =>
    zl (y2 + 1) fun v6 =>
    L_X6_fewestLeftOut_15 n r5 v6 σ4
    ) else (
    some (y1, y2, σ)
    )
    )
def F_X6_fewestLeftOut (σ : SF)  : Option (Int32 × SF) :=
  zb (F_X1_copyFrom σ 31 3) fun σ2 =>
  zb3 (L_X6_fewestLeftOut_15 100 (-1) 0 σ2) fun v7 v8 σ9 =>
  some (v7, σ9)
def F_X6_mend (σ : SF)  (x1 : Int32) : Option (Int32 × SF) :=
  if x1 < 0 then (
  some ((-102), σ)
  ) else (
  if x1 ≤ 1 then (
  if (σ 3 0) = 0 then (
  some ((-103), σ)
  ) else (
  if (σ 0 12) < 5 then (
  zl (zst σ 0 12 ((σ 0 12) + 1)) fun σ1 =>
  zb2 (F_X6_fewestLeftOut σ1) fun r4 σ3 =>
  if x1 = 1 then (
  some (r4, σ3)
  ) else (
  if r4 = (-1) then (
  some (r4, σ3)
  ) else (
  zb (F_J6_bitCount_0f7a4 r4) fun r6 =>
  some (r6, σ3)
  )
  )
  ) else (
  some ((-103), σ)
  )
  )
  ) else (
  some ((-102), σ)
  )
  )
def F_X6_see (σ : SF)  (x1 : Int32) (x2 : Int32) (x3 : Int32) : Option (Int32 × SF) :=
  zb (F_X1_has σ 3 x1) fun r2 =>
  if r2 = 0 then (
  some ((-101), σ)
  ) else (
  if x2 < 1 then (
  some ((-102), σ)
  ) else (
  if 3 < x2 then (
  some ((-102), σ)
  ) else (
  if x3 < 0 then (
  some ((-102), σ)
  ) else (
  if x3 ≤ 2 then (
  zb2 (F_X3_add σ 19 x1 x2 x3) fun r5 σ4 =>
  if r5 = 0 then (
  some ((-104), σ4)
  ) else (
  some (σ4 19 0, σ4)
  )
  ) else (
  some ((-102), σ)
  )
  )
  )
  )
  )
def F_X6_forget (σ : SF)  : Option (Int32 × SF) :=
  zl (σ 19 0) fun v1 =>
  zl (zst σ 19 0 0) fun σ2 =>
  some (v1, σ2)
def F_X6_nextSeed  (x0 : Int32) : Option Int32 :=
  some (((((1103515245 : Int64) * ((x0 : Int32).toInt64)) + 12345) &&& 2147483647 : Int64).toInt32)
def F_X6_drawBy  (x0 : Int32) (x1 : Int32) : Option Int32 :=
  if x1 ≤ 0 then (
  some 0
  ) else (
  zg (znz x1) <|
  some ((((x0).toUInt32 >>> ((16 : Int32).toUInt32 &&& Int32.toUInt32 31)).toInt32) - (((x0).toUInt32 >>> ((16 : Int32).toUInt32 &&& Int32.toUInt32 31)).toInt32) / x1 * x1)
  )
def L_X6_drawDraft_12 : Nat → Int32 → Int32 → SF → Option (Int32 × Int32 × SF)
  | 0, _, _, _ => none
  | n + 1, y2, y3, σ =>
    if 5 ≤ y3 then (
    some (y2, y3, σ)
    ) else (
    zb (F_X6_nextSeed y2) fun r3 =>
    zb (F_X6_drawBy r3 5) fun r5 =>
    zg (zin y3 8) <|
    zl (zst σ (31 + 1) (y3 : Int32).toNatClampNeg r5) fun σ6 =>
    zb (F_X6_nextSeed r3) fun r8 =>
    zb (F_X6_drawBy r8 5) fun r10 =>
    zg (zin y3 8) <|
    zl (zst σ6 (31 + 2) (y3 : Int32).toNatClampNeg r10) fun σ11 =>
    zb (F_X6_nextSeed r8) fun r13 =>
    zb (F_X6_drawBy r13 5) fun r15 =>
    zg (zin y3 8) <|
    zl (zst σ11 (31 + 3) (y3 : Int32).toNatClampNeg r15) fun σ16 =>
    zl (y3 + 1) fun v17 =>
    L_X6_drawDraft_12 n r13 v17 σ16
    )
def F_X6_drawDraft (σ : SF)  (x1 : Int32) : Option (Int32 × SF) :=
  zl (zst σ 31 0 5) fun σ1 =>
  zb3 (L_X6_drawDraft_12 100 x1 0 σ1) fun v18 v19 σ20 =>
  some (v18, σ20)
def L_X6_drawn_39 (y1 : Int32) (y3 : Int32) : Nat → Int32 → Int32 → Int32 → Int32 → SF → Option (Int32 × Int32 × Int32 × Int32 × SF)
  | 0, _, _, _, _, _ => none
  | n + 1, y4, y5, y6, y7, σ =>
    if y1 ≤ y7 then (
    some (y4, y5, y6, y7, σ)
    ) else (
    zb2 (F_X6_drawDraft σ y6) fun r3 σ2 =>
    zb (F_X0_look σ2 31 0) fun σ5 =>
    zb (F_X0_folds σ5 31) fun r7 =>
    if r7 = 0 then (
    zl (y4 + 0) fun v8 =>
    zb (F_J6_bitCount_0f7a4 (σ5 (31 + 4) 11)) fun r10 =>
    zl (y5 + r10) fun v11 =>
    zl (y7 + 1) fun v12 =>
    L_X6_drawn_39 y1 y3 n v8 v11 r3 v12 σ5
    ) else (
    zl (y4 + 1) fun v13 =>
    zb (F_J6_bitCount_0f7a4 (σ5 (31 + 4) 11)) fun r15 =>
    zl (y5 + r15) fun v16 =>
    zl (y7 + 1) fun v17 =>
    L_X6_drawn_39 y1 y3 n v13 v16 r3 v17 σ5
    )
    )
def F_X6_drawn (σ : SF)  (x1 : Int32) (x2 : Int32) (x3 : Int32) : Option (Int32 × SF) :=
  if x1 < 1 then (
  some ((-102), σ)
  ) else (
  if 8 < x1 then (
  some ((-102), σ)
  ) else (
  if x2 < 0 then (
  some ((-102), σ)
  ) else (
  if x3 < 0 then (
  some ((-102), σ)
  ) else (
  if x3 ≤ 2 then (
  zb5 (L_X6_drawn_39 x1 x3 100 0 0 x2 0 σ) fun v18 v19 v20 v21 σ22 =>
  if x3 = 0 then (
  some (v18, σ22)
  ) else (
  if x3 = 1 then (
  some (v19, σ22)
  ) else (
  some (v20, σ22)
  )
  )
  ) else (
  some ((-102), σ)
  )
  )
  )
  )
  )
def F_X6_image (σ : SF)  : Option (Int32 × SF) :=
  if (σ 3 0) = 0 then (
  some ((-103), σ)
  ) else (
  zl (zst σ 0 10 1) fun σ1 =>
  zb (F_X1_copyFrom σ1 23 3) fun σ3 =>
  zb (F_X3_copyFrom σ3 27 19) fun σ5 =>
  some (σ5 3 0, σ5)
  )
def F_X6_restore (σ : SF)  : Option (Int32 × SF) :=
  if (σ 0 10) = 0 then (
  some ((-103), σ)
  ) else (
  zb (F_X1_copyFrom σ 3 23) fun σ2 =>
  zb (F_X3_copyFrom σ2 19 27) fun σ4 =>
  zb (F_X6_lookAnew σ4) fun σ6 =>
  some (σ6 3 0, σ6)
  )
def F_X6_count (σ : SF)  (x1 : Int32) : Option Int32 :=
  if x1 = 0 then (
  some (σ 3 0)
  ) else (
  if x1 = 1 then (
  some (σ (3 + 4) 6)
  ) else (
  if x1 = 2 then (
  some (σ (3 + 4) 8)
  ) else (
  if x1 = 3 then (
  some (σ (3 + 4) 9)
  ) else (
  if x1 = 4 then (
  some (σ (3 + 4) 10)
  ) else (
  if x1 = 5 then (
  zb (F_J6_bitCount_0f7a4 (σ (3 + 4) 11)) fun r2 =>
  some r2
  ) else (
  if x1 = 6 then (
  zb (F_J6_bitCount_0f7a4 (σ (3 + 4) 12)) fun r4 =>
  some r4
  ) else (
  if x1 = 7 then (
  some (σ 16 1)
  ) else (
  if x1 = 8 then (
  some (σ 19 0)
  ) else (
  if x1 = 9 then (
  some (σ 1 1)
  ) else (
  if x1 = 10 then (
  some (σ 0 11)
  ) else (
  if x1 = 11 then (
  some (σ 0 12)
  ) else (
  some (-102)
  )
  )
  )
  )
  )
  )
  )
  )
  )
  )
  )
  )
def L_X6_joined_6 (σ : SF) (q : Nat) (nn : Nat) (y3 : Int32) : Nat → Int64 → Int32 → Option (Int64 × Int32)
  | 0, _, _ => none
  | n + 1, y4, y6 =>
    if y3 ≤ y6 then (
    some (y4, y6)
    ) else (
    if (nI nn) ≤ y6 then (
    some (y4, y6)
    ) else (
    zg (zin y6 nn) <|
    zl (((31 : Int64) * y4) + ((σ q (y6 : Int32).toNatClampNeg : Int32).toInt64)) fun w1 =>
    zl (y6 + 1) fun v2 =>
    L_X6_joined_6 σ q nn y3 n w1 v2
    )
    )
def F_X6_joined (σ : SF) (q : Nat) (nn : Nat) (x0 : Int64) (x3 : Int32) : Option Int64 :=
  zb2 (L_X6_joined_6 σ q nn x3 100 x0 0) fun w3 v4 =>
  some w3
def L_X6_digest_20 (σ : SF) (y3 : Int32) : Nat → Int64 → Int32 → Option (Int64 × Int32)
  | 0, _, _ => none
  | n + 1, y1, y4 =>
    if 10 ≤ y4 then (
    some (y1, y4)
    ) else (
    zb (F_X6_node σ y3 y4) fun r2 =>
    zl (((31 : Int64) * y1) + ((r2 : Int32).toInt64)) fun w3 =>
    zl (y4 + 1) fun v4 =>
    L_X6_digest_20 σ y3 n w3 v4
    )
def L_X6_digest_6 (σ : SF) : Nat → Int64 → Int32 → Option (Int64 × Int32)
  | 0, _, _ => none
  | n + 1, y1, y3 =>
    if (σ 3 0) ≤ y3 then (
    some (y1, y3)
    ) else (
    zb2 (L_X6_digest_20 σ y3 100 y1 0) fun w5 v6 =>
    zb (F_X6_edge σ y3 0) fun r9 =>
    zl (((31 : Int64) * w5) + ((r9 : Int32).toInt64)) fun w10 =>
    zb (F_X6_edge σ y3 1) fun r12 =>
    zl (((31 : Int64) * w10) + ((r12 : Int32).toInt64)) fun w13 =>
    zl (y3 + 1) fun v14 =>
    L_X6_digest_6 σ n w13 v14
    )
def L_X6_digest_177 (σ : SF) : Nat → Int64 → Int32 → Option (Int64 × Int32)
  | 0, _, _ => none
  | n + 1, y1, y3 =>
    if 12 ≤ y3 then (
    some (y1, y3)
    ) else (
    zb (F_X6_count σ y3) fun r25 =>
    zl (((31 : Int64) * y1) + ((r25 : Int32).toInt64)) fun w26 =>
    zl (y3 + 1) fun v27 =>
    L_X6_digest_177 σ n w26 v27
    )
def L_X6_digest_94 (σ : SF) : Nat → Int64 → Int32 → Option (Int64 × Int32)
  | 0, _, _ => none
  | n + 1, y1, y3 =>
    if 4 ≤ y3 then (
    some (y1, y3)
    ) else (
    zb (F_X6_fold σ y3) fun r32 =>
    zl (((31 : Int64) * y1) + ((r32 : Int32).toInt64)) fun w33 =>
    zl (y3 + 1) fun v34 =>
    L_X6_digest_94 σ n w33 v34
    )
def F_X6_digest (σ : SF)  : Option Int64 :=
  zb2 (L_X6_digest_6 σ 100 1381 0) fun w15 v16 =>
  if (σ 3 0) ≤ 0 then (
  zb (F_X6_joined σ 14 72 w15 (σ 13 3)) fun r19 =>
  zb (F_X6_joined σ 17 30 r19 (σ 16 1)) fun r21 =>
  zb (F_X6_joined σ 2 34 r21 (σ 1 1)) fun r23 =>
  zb2 (L_X6_digest_177 σ 100 r23 0) fun w28 v29 =>
  some w28
  ) else (
  zb2 (L_X6_digest_94 σ 100 w15 0) fun w35 v36 =>
  zb (F_X6_joined σ 14 72 w35 (σ 13 3)) fun r39 =>
  zb (F_X6_joined σ 17 30 r39 (σ 16 1)) fun r41 =>
  zb (F_X6_joined σ 2 34 r41 (σ 1 1)) fun r43 =>
  zb2 (L_X6_digest_177 σ 100 r43 0) fun w44 v45 =>
  some w44
  )
def F_X7_within  (x0 : Int32) (x1 : Int32) (x2 : Int32) : Option Int32 :=
  if x0 < x1 then (
  some 0
  ) else (
  if x2 < x0 then (
  some 0
  ) else (
  some 1
  )
  )
def F_X7_isIn  (x0 : Int32) (x1 : Int32) : Option Int32 :=
  if ((x0 >>> (x1 &&& 31)) &&& 1) = 1 then (
  some 1
  ) else (
  some 0
  )
def L_X7_size_4 (y0 : Int32) : Nat → Int32 → Int32 → Option (Int32 × Int32)
  | 0, _, _ => none
  | n + 1, y1, y2 =>
    if 16 ≤ y2 then (
    some (y1, y2)
    ) else (
    zl (y1 + ((y0 >>> (y2 &&& 31)) &&& 1)) fun v1 =>
    zl (y2 + 1) fun v2 =>
    L_X7_size_4 y0 n v1 v2
    )
def F_X7_size  (x0 : Int32) : Option Int32 :=
  zb2 (L_X7_size_4 x0 100 0 0) fun v3 v4 =>
  some v3
def F_X7_letter (σ : SF)  (x1 : Int32) : Option (Int32 × SF) :=
  zb (F_X7_within x1 32 126) fun r2 =>
  if r2 = 0 then (
  some ((-102), σ)
  ) else (
  if (σ 0 11) = 34 then (
  some ((-104), σ)
  ) else (
  zg (zin (σ 0 11) 34) <|
  zl (zst σ 7 (σ 0 11 : Int32).toNatClampNeg (vp_nar .byte ((x1 : Int32).toInt8.toInt32))) fun σ3 =>
  zl (zst σ3 0 11 ((σ3 0 11) + 1)) fun σ4 =>
  some (σ4 0 11, σ4)
  )
  )
def F_X7_blank (σ : SF)  : Option (Int32 × SF) :=
  zl (σ 0 11) fun v1 =>
  zl (zst σ 0 11 0) fun σ2 =>
  some (v1, σ2)
def F_X7_kindBy  (x0 : Int32) : Option Int32 :=
  if x0 = 101 then (
  some 2
  ) else (
  if x0 = 102 then (
  some 1
  ) else (
  if x0 = 110 then (
  some 0
  ) else (
  if x0 = 116 then (
  some 4
  ) else (
  if x0 = 120 then (
  some 3
  ) else (
  some (-1)
  )
  )
  )
  )
  )
def F_X7_ends  (x0 : Int32) : Option Int32 :=
  if x0 = 2 then (
  some 0
  ) else (
  if x0 = 0 then (
  some 1
  ) else (
  some 2
  )
  )
def F_X7_at (σ : SF)  (x1 : Int32) : Option Int32 :=
  if (σ 0 11) ≤ x1 then (
  some 0
  ) else (
  zg (zin x1 34) <|
  some (σ 7 (x1 : Int32).toNatClampNeg)
  )
def L_X7_read_74 (y2 : Int32) : Nat → Int32 → Int32 → SF → Option ((Int32 × SF) ⊕ (Int32 × Int32 × SF))
  | 0, _, _, _ => none
  | n + 1, y1, y3, σ =>
    zb (F_X7_ends y2) fun r13 =>
    if r13 ≤ y3 then (
    some (.inr (y1, y3, σ))
    ) else (
    zb (F_X7_at σ y1) fun r15 =>
    zl (r15 - 48) fun v16 =>
    zb (F_X7_within v16 0 7) fun r18 =>
    if r18 = 0 then (
    some (.inl (y1, σ))
    ) else (
    zg (zin (((2 : Int32) * (σ 0 14)) + y3) 16) <|
    zl (zst σ 9 (((2 : Int32) * (σ 0 14)) + y3 : Int32).toNatClampNeg v16) fun σ19 =>
    if v16 ≤ (σ19 0 15) then (
    zl (zst σ19 0 15 (σ19 0 15)) fun σ20 =>
    zl (y1 + 1) fun v21 =>
    zl (y3 + 1) fun v22 =>
    L_X7_read_74 y2 n v21 v22 σ20
    ) else (
    zl (zst σ19 0 15 v16) fun σ23 =>
    zl (y1 + 1) fun v24 =>
    zl (y3 + 1) fun v25 =>
    L_X7_read_74 y2 n v24 v25 σ23
    )
    )
    )
def L_X7_read_17 : Nat → Int32 → SF → Option ((Int32 × SF) ⊕ (Int32 × SF))
  | 0, _, _ => none
  | n + 1, y1, σ =>
    zb (F_X7_at σ y1) fun r5 =>
    zb (F_X7_kindBy r5) fun r7 =>
    if r7 = (-1) then (
    some (.inl (y1, σ))
    ) else (
    zl (y1 + 1) fun v8 =>
    zg (zin (σ 0 14) 8) <|
    zl (zst σ 8 (σ 0 14 : Int32).toNatClampNeg r7) fun σ9 =>
    zg (zin ((2 : Int32) * (σ9 0 14)) 16) <|
    zl (zst σ9 9 ((2 : Int32) * (σ9 0 14) : Int32).toNatClampNeg 0) fun σ10 =>
    zg (zin (((2 : Int32) * (σ10 0 14)) + 1) 16) <|
    zl (zst σ10 9 (((2 : Int32) * (σ10 0 14)) + 1 : Int32).toNatClampNeg 0) fun σ11 =>
    zs (L_X7_read_74 r7 100 v8 0 σ11) (fun ρ31 => some (.inl ρ31)) (fun u30 =>
    zb3 (some u30) fun v26 v27 σ28 =>
    zl (zst σ28 0 14 ((σ28 0 14) + 1)) fun σ32 =>
    if (σ32 0 14) = 8 then (
    some (.inr (v26, σ32))
    ) else (
    zb (F_X7_at σ32 v26) fun r34 =>
    if r34 = 44 then (
    zl (v26 + 1) fun v35 =>
    L_X7_read_17 n v35 σ32
    ) else (
    some (.inr (v26, σ32))
    )
    )
    )
    )
def F_X7_read (σ : SF)  : Option (Int32 × SF) :=
  zl (zst σ 0 13 0) fun σ1 =>
  zl (zst σ1 0 14 0) fun σ2 =>
  zl (zst σ2 0 15 (-1)) fun σ3 =>
  zs (L_X7_read_17 100 0 σ3) (fun ρ40 => some ρ40) (fun u39 =>
  zb2 (some u39) fun v36 σ37 =>
  if v36 = (σ37 0 11) then (
  zl (zst σ37 0 13 1) fun σ42 =>
  some (v36, σ42)
  ) else (
  zl (zst σ37 0 13 0) fun σ41 =>
  some (v36, σ41)
  )
  )
def F_X7_fault (σ : SF)  : Option (Int32 × SF) :=
  zb2 (F_X7_read σ) fun r3 σ2 =>
  some (r3, σ2)
def L_X7_graph_36 : Nat → Int32 → SF → Option (Int32 × SF)
  | 0, _, _ => none
  | n + 1, y1, σ =>
    if (σ 0 1) ≤ y1 then (
    some (y1, σ)
    ) else (
    zg (zin y1 8) <|
    zg (zin y1 8) <|
    zl (zst σ 1 (y1 : Int32).toNatClampNeg (σ 8 (y1 : Int32).toNatClampNeg)) fun σ5 =>
    zl ((2 : Int32) * y1) fun v6 =>
    zg (zin v6 16) <|
    zg (zin ((2 : Int32) * y1) 16) <|
    zl (zst σ5 2 ((2 : Int32) * y1 : Int32).toNatClampNeg (σ5 9 (v6 : Int32).toNatClampNeg)) fun σ7 =>
    zl (((2 : Int32) * y1) + 1) fun v8 =>
    zg (zin v8 16) <|
    zg (zin (((2 : Int32) * y1) + 1) 16) <|
    zl (zst σ7 2 (((2 : Int32) * y1) + 1 : Int32).toNatClampNeg (σ7 9 (v8 : Int32).toNatClampNeg)) fun σ9 =>
    zl (y1 + 1) fun v10 =>
    L_X7_graph_36 n v10 σ9
    )
def F_X7_graph (σ : SF)  : Option (Int32 × SF) :=
  zb2 (F_X7_read σ) fun r3 σ2 =>
  if (σ2 0 13) = 0 then (
  some ((-103), σ2)
  ) else (
  if (σ2 0 15) < (σ2 0 14) then (
  zl (zst σ2 0 1 (σ2 0 14)) fun σ4 =>
  zb2 (L_X7_graph_36 100 0 σ4) fun v11 σ12 =>
  zl (zst σ12 0 4 0) fun σ14 =>
  zl (zst σ14 0 0 ((σ14 0 0) + 1)) fun σ15 =>
  zl (zst σ15 0 7 0) fun σ16 =>
  zl (zst σ16 0 11 0) fun σ17 =>
  some (σ17 0 1, σ17)
  ) else (
  some ((-103), σ2)
  )
  )
def F_X7_isNode (σ : SF)  (x1 : Int32) : Option Int32 :=
  zb (F_X7_within x1 0 ((σ 0 1) - 1)) fun r2 =>
  some r2
def L_X7_layGraph_15 : Nat → Int32 → SF → Option (Int32 × SF)
  | 0, _, _ => none
  | n + 1, y1, σ =>
    if (σ 0 1) ≤ y1 then (
    some (y1, σ)
    ) else (
    zg (zin y1 8) <|
    zg (zin y1 8) <|
    zl (zst σ 10 (y1 : Int32).toNatClampNeg (σ 1 (y1 : Int32).toNatClampNeg)) fun σ3 =>
    zl ((2 : Int32) * y1) fun v4 =>
    zg (zin v4 16) <|
    zg (zin ((2 : Int32) * y1) 16) <|
    zl (zst σ3 11 ((2 : Int32) * y1 : Int32).toNatClampNeg (σ3 2 (v4 : Int32).toNatClampNeg)) fun σ5 =>
    zl (((2 : Int32) * y1) + 1) fun v6 =>
    zg (zin v6 16) <|
    zg (zin (((2 : Int32) * y1) + 1) 16) <|
    zl (zst σ5 11 (((2 : Int32) * y1) + 1 : Int32).toNatClampNeg (σ5 2 (v6 : Int32).toNatClampNeg)) fun σ7 =>
    zl (y1 + 1) fun v8 =>
    L_X7_layGraph_15 n v8 σ7
    )
def F_X7_layGraph (σ : SF)  : Option SF :=
  zl (zst σ 0 18 (σ 0 1)) fun σ1 =>
  zl (zst σ1 0 19 0) fun σ2 =>
  zb2 (L_X7_layGraph_15 100 0 σ2) fun v9 σ10 =>
  some σ10
def F_X7_isEdge (σ : SF)  (x1 : Int32) : Option Int32 :=
  zl (x1 / 2) fun v1 =>
  zg (zin v1 8) <|
  zb (F_X7_ends (σ 10 (v1 : Int32).toNatClampNeg)) fun r3 =>
  if r3 ≤ (x1 - x1 / 2 * 2) then (
  some 0
  ) else (
  zb (F_X7_isIn (σ 0 19) x1) fun r5 =>
  if r5 = 0 then (
  some 1
  ) else (
  some 0
  )
  )
def L_X7_layOrder_23 : Nat → Int32 → Int32 → SF → Option (Int32 × Int32 × SF)
  | 0, _, _, _ => none
  | n + 1, y1, y2, σ =>
    if y1 ≤ 0 then (
    some (y1, y2, σ)
    ) else (
    zl (y1 - 1) fun v4 =>
    zg (zin v4 8) <|
    zl (σ 16 (v4 : Int32).toNatClampNeg) fun v5 =>
    zl (y1 - 1) fun v6 =>
    zg (zin v6 8) <|
    if (σ 17 (v6 : Int32).toNatClampNeg) = 2 then (
    zg (zin y2 8) <|
    zl (zst σ 12 (y2 : Int32).toNatClampNeg v5) fun σ19 =>
    zl (y2 + 1) fun v20 =>
    zl (y1 + (-1)) fun v21 =>
    L_X7_layOrder_23 n v21 v20 σ19
    ) else (
    zl (y1 - 1) fun v7 =>
    zg (zin v7 8) <|
    zl (((2 : Int32) * v5) + (σ 17 (v7 : Int32).toNatClampNeg)) fun v8 =>
    zl (y1 - 1) fun v9 =>
    zg (zin v9 8) <|
    zg (zin v9 8) <|
    zl (zst σ 17 (v9 : Int32).toNatClampNeg ((σ 17 (v9 : Int32).toNatClampNeg) + 1)) fun σ10 =>
    zb (F_X7_isEdge σ10 v8) fun r12 =>
    if r12 = 0 then (
    L_X7_layOrder_23 n y1 y2 σ10
    ) else (
    zg (zin v8 16) <|
    zb (F_X7_isIn (σ10 0 22) (σ10 11 (v8 : Int32).toNatClampNeg)) fun r14 =>
    if r14 = 0 then (
    zg (zin v8 16) <|
    zl (zst σ10 0 22 ((σ10 0 22) ||| ((1 : Int32) <<< ((σ10 11 (v8 : Int32).toNatClampNeg) &&& 31)))) fun σ15 =>
    zg (zin v8 16) <|
    zg (zin y1 8) <|
    zl (zst σ15 16 (y1 : Int32).toNatClampNeg (σ15 11 (v8 : Int32).toNatClampNeg)) fun σ16 =>
    zg (zin y1 8) <|
    zl (zst σ16 17 (y1 : Int32).toNatClampNeg 0) fun σ17 =>
    zl (y1 + 1) fun v18 =>
    L_X7_layOrder_23 n v18 y2 σ17
    ) else (
    L_X7_layOrder_23 n y1 y2 σ10
    )
    )
    )
    )
def L_X7_layOrder_167 (y2 : Int32) : Nat → Int32 → SF → Option (Int32 × SF)
  | 0, _, _ => none
  | n + 1, y3, σ =>
    if (y2 / 2) ≤ y3 then (
    some (y3, σ)
    ) else (
    zg (zin y3 8) <|
    zl (σ 12 (y3 : Int32).toNatClampNeg) fun v27 =>
    zl ((y2 - 1) - y3) fun v28 =>
    zg (zin v28 8) <|
    zg (zin y3 8) <|
    zl (zst σ 12 (y3 : Int32).toNatClampNeg (σ 12 (v28 : Int32).toNatClampNeg)) fun σ29 =>
    zg (zin ((y2 - 1) - y3) 8) <|
    zl (zst σ29 12 ((y2 - 1) - y3 : Int32).toNatClampNeg v27) fun σ30 =>
    zl (y3 + 1) fun v31 =>
    L_X7_layOrder_167 y2 n v31 σ30
    )
def L_X7_layOrder_218 (y2 : Int32) : Nat → Int32 → SF → Option (Int32 × SF)
  | 0, _, _ => none
  | n + 1, y3, σ =>
    if y2 ≤ y3 then (
    some (y3, σ)
    ) else (
    zg (zin y3 8) <|
    zg (zin (σ 12 (y3 : Int32).toNatClampNeg) 8) <|
    zl (zst σ 13 (σ 12 (y3 : Int32).toNatClampNeg : Int32).toNatClampNeg y3) fun σ35 =>
    zl (y3 + 1) fun v36 =>
    L_X7_layOrder_218 y2 n v36 σ35
    )
def F_X7_layOrder (σ : SF)  : Option SF :=
  zg (zin 0 8) <|
  zl (zst σ 16 (0 : Int32).toNatClampNeg 0) fun σ1 =>
  zg (zin 0 8) <|
  zl (zst σ1 17 (0 : Int32).toNatClampNeg 0) fun σ2 =>
  zl (zst σ2 0 22 1) fun σ3 =>
  zb3 (L_X7_layOrder_23 100 1 0 σ3) fun v22 v23 σ24 =>
  zl (zst σ24 0 23 v23) fun σ26 =>
  zb2 (L_X7_layOrder_167 v23 100 0 σ26) fun v32 σ33 =>
  zb2 (L_X7_layOrder_218 v23 100 0 σ33) fun v37 σ38 =>
  some σ38
def L_X7_without_21 (σ : SF) (y1 : Int32) (y3 : Int32) : Nat → Int32 → Int32 → Option (Int32 × Int32)
  | 0, _, _ => none
  | n + 1, y2, y4 =>
    if ((2 : Int32) * (σ 0 18)) ≤ y4 then (
    some (y2, y4)
    ) else (
    zb (F_X7_isIn y2 (y4 / 2)) fun r2 =>
    if r2 = 0 then (
    zl (y2 ||| 0) fun v3 =>
    zl (y4 + 1) fun v4 =>
    L_X7_without_21 σ y1 y3 n v3 v4
    ) else (
    zb (F_X7_isEdge σ y4) fun r6 =>
    if r6 = 0 then (
    zl (y2 ||| 0) fun v7 =>
    zl (y4 + 1) fun v8 =>
    L_X7_without_21 σ y1 y3 n v7 v8
    ) else (
    zg (zin y4 16) <|
    if (σ 11 (y4 : Int32).toNatClampNeg) = y1 then (
    zl (y2 ||| 0) fun v9 =>
    zl (y4 + 1) fun v10 =>
    L_X7_without_21 σ y1 y3 n v9 v10
    ) else (
    zg (zin y4 16) <|
    zl (y2 ||| ((1 : Int32) <<< ((σ 11 (y4 : Int32).toNatClampNeg) &&& 31))) fun v11 =>
    zl (y4 + 1) fun v12 =>
    L_X7_without_21 σ y1 y3 n v11 v12
    )
    )
    )
    )
def L_X7_without_12 (σ : SF) (y1 : Int32) : Nat → Int32 → Int32 → Option (Int32 × Int32)
  | 0, _, _ => none
  | n + 1, y2, y3 =>
    if 8 ≤ y3 then (
    some (y2, y3)
    ) else (
    zb2 (L_X7_without_21 σ y1 y3 100 y2 0) fun v13 v14 =>
    zl (y3 + 1) fun v16 =>
    L_X7_without_12 σ y1 n v13 v16
    )
def F_X7_without (σ : SF)  (x1 : Int32) : Option Int32 :=
  if x1 = 0 then (
  zb2 (L_X7_without_12 σ x1 100 0 0) fun v20 v21 =>
  some v20
  ) else (
  zb2 (L_X7_without_12 σ x1 100 1 0) fun v17 v18 =>
  some v17
  )
def L_X7_layLords_2 : Nat → Int32 → SF → Option (Int32 × SF)
  | 0, _, _ => none
  | n + 1, y1, σ =>
    if (σ 0 18) ≤ y1 then (
    some (y1, σ)
    ) else (
    zg (zin y1 8) <|
    zl (zst σ 14 (y1 : Int32).toNatClampNeg 0) fun σ1 =>
    zg (zin y1 8) <|
    zl (zst σ1 15 (y1 : Int32).toNatClampNeg (-1)) fun σ2 =>
    zl (y1 + 1) fun v3 =>
    L_X7_layLords_2 n v3 σ2
    )
def L_X7_layLords_70 (y1 : Int32) (y2 : Int32) : Nat → Int32 → SF → Option (Int32 × SF)
  | 0, _, _ => none
  | n + 1, y3, σ =>
    if (σ 0 18) ≤ y3 then (
    some (y3, σ)
    ) else (
    zg (zin y3 8) <|
    zb (F_X7_isIn y2 y3) fun r10 =>
    if r10 = 0 then (
    zg (zin y3 8) <|
    zl (zst σ 14 (y3 : Int32).toNatClampNeg ((σ 14 (y3 : Int32).toNatClampNeg) ||| 0)) fun σ11 =>
    zl (y3 + 1) fun v12 =>
    L_X7_layLords_70 y1 y2 n v12 σ11
    ) else (
    zg (zin y3 8) <|
    zl (zst σ 14 (y3 : Int32).toNatClampNeg ((σ 14 (y3 : Int32).toNatClampNeg) ||| ((1 : Int32) <<< (y1 &&& 31)))) fun σ13 =>
    zl (y3 + 1) fun v14 =>
    L_X7_layLords_70 y1 y2 n v14 σ13
    )
    )
def L_X7_layLords_32 : Nat → Int32 → SF → Option (Int32 × SF)
  | 0, _, _ => none
  | n + 1, y1, σ =>
    if (σ 0 18) ≤ y1 then (
    some (y1, σ)
    ) else (
    zb (F_X7_isIn (σ 0 22) y1) fun r8 =>
    if r8 = 0 then (
    zb2 (L_X7_layLords_70 y1 0 100 0 σ) fun v15 σ16 =>
    zl (y1 + 1) fun v18 =>
    L_X7_layLords_32 n v18 σ16
    ) else (
    zb (F_X7_without σ y1) fun r20 =>
    zl ((σ 0 22) &&& (r20 ^^^ (-1))) fun v21 =>
    zb2 (L_X7_layLords_70 y1 v21 100 0 σ) fun v22 σ23 =>
    zl (y1 + 1) fun v25 =>
    L_X7_layLords_32 n v25 σ23
    )
    )
def L_X7_layLords_126 (y1 : Int32) : Nat → Int32 → SF → Option (Int32 × SF)
  | 0, _, _ => none
  | n + 1, y2, σ =>
    if (σ 0 18) ≤ y2 then (
    some (y2, σ)
    ) else (
    if y2 = y1 then (
    zg (zin y1 8) <|
    zg (zin y1 8) <|
    zl (zst σ 15 (y1 : Int32).toNatClampNeg (σ 15 (y1 : Int32).toNatClampNeg)) fun σ29 =>
    zl (y2 + 1) fun v30 =>
    L_X7_layLords_126 y1 n v30 σ29
    ) else (
    zg (zin y1 8) <|
    zb (F_X7_isIn (σ 14 (y1 : Int32).toNatClampNeg) y2) fun r32 =>
    if r32 = 0 then (
    zg (zin y1 8) <|
    zg (zin y1 8) <|
    zl (zst σ 15 (y1 : Int32).toNatClampNeg (σ 15 (y1 : Int32).toNatClampNeg)) fun σ33 =>
    zl (y2 + 1) fun v34 =>
    L_X7_layLords_126 y1 n v34 σ33
    ) else (
    zg (zin y2 8) <|
    zb (F_X7_size (σ 14 (y2 : Int32).toNatClampNeg)) fun r36 =>
    zg (zin y1 8) <|
    zb (F_X7_size (σ 14 (y1 : Int32).toNatClampNeg)) fun r38 =>
    if r36 = (r38 - 1) then (
    zg (zin y1 8) <|
    zl (zst σ 15 (y1 : Int32).toNatClampNeg y2) fun σ41 =>
    zl (y2 + 1) fun v42 =>
    L_X7_layLords_126 y1 n v42 σ41
    ) else (
    zg (zin y1 8) <|
    zg (zin y1 8) <|
    zl (zst σ 15 (y1 : Int32).toNatClampNeg (σ 15 (y1 : Int32).toNatClampNeg)) fun σ39 =>
    zl (y2 + 1) fun v40 =>
    L_X7_layLords_126 y1 n v40 σ39
    )
    )
    )
    )
def L_X7_layLords_116 : Nat → Int32 → SF → Option (Int32 × SF)
  | 0, _, _ => none
  | n + 1, y1, σ =>
    if (σ 0 18) ≤ y1 then (
    some (y1, σ)
    ) else (
    zb2 (L_X7_layLords_126 y1 100 0 σ) fun v43 σ44 =>
    zl (y1 + 1) fun v46 =>
    L_X7_layLords_116 n v46 σ44
    )
def F_X7_layLords (σ : SF)  : Option SF :=
  zb2 (L_X7_layLords_2 100 0 σ) fun v4 σ5 =>
  zb2 (L_X7_layLords_32 100 0 σ5) fun v26 σ27 =>
  zb2 (L_X7_layLords_116 100 0 σ27) fun v47 σ48 =>
  some σ48
def F_X7_isLive (σ : SF)  (x1 : Int32) : Option Int32 :=
  zb (F_X7_isIn (σ 0 22) (x1 / 2)) fun r2 =>
  if r2 = 0 then (
  some 0
  ) else (
  zb (F_X7_isEdge σ x1) fun r4 =>
  if r4 = 0 then (
  some 0
  ) else (
  some 1
  )
  )
def F_X7_retreats (σ : SF)  (x1 : Int32) : Option Int32 :=
  zg (zin x1 16) <|
  zl (σ 11 (x1 : Int32).toNatClampNeg) fun v1 =>
  zg (zin v1 8) <|
  zl (x1 / 2) fun v2 =>
  zg (zin v2 8) <|
  if (σ 13 (v2 : Int32).toNatClampNeg) < (σ 13 (v1 : Int32).toNatClampNeg) then (
  some 0
  ) else (
  some 1
  )
def F_X7_isBack (σ : SF)  (x1 : Int32) : Option Int32 :=
  zl (x1 / 2) fun v1 =>
  zg (zin v1 8) <|
  zg (zin x1 16) <|
  zb (F_X7_isIn (σ 14 (v1 : Int32).toNatClampNeg) (σ 11 (x1 : Int32).toNatClampNeg)) fun r3 =>
  some r3
def L_X7_layEdges_29 : Nat → Int32 → Int32 → SF → Option (Int32 × Int32 × SF)
  | 0, _, _, _ => none
  | n + 1, y1, y2, σ =>
    if ((2 : Int32) * (σ 0 18)) ≤ y2 then (
    some (y1, y2, σ)
    ) else (
    zb (F_X7_isLive σ y2) fun r7 =>
    if r7 = 0 then (
    zl (y2 + 1) fun v8 =>
    L_X7_layEdges_29 n y1 v8 σ
    ) else (
    zg (zin y2 16) <|
    zl (σ 11 (y2 : Int32).toNatClampNeg) fun v9 =>
    zl (zst σ 0 28 ((σ 0 28) + 1)) fun σ10 =>
    zb (F_X7_isBack σ10 y2) fun r12 =>
    if r12 = 0 then (
    zb (F_X7_retreats σ10 y2) fun r14 =>
    if r14 = 0 then (
    zb (F_X7_retreats σ10 y2) fun r16 =>
    if r16 = 0 then (
    zb (F_X7_isIn y1 v9) fun r19 =>
    if r19 = 0 then (
    zl (zst σ10 0 32 ((σ10 0 32) ||| 0)) fun σ20 =>
    zl (y1 ||| ((1 : Int32) <<< (v9 &&& 31))) fun v21 =>
    zl (y2 + 1) fun v22 =>
    L_X7_layEdges_29 n v21 v22 σ20
    ) else (
    zl (zst σ10 0 32 ((σ10 0 32) ||| ((1 : Int32) <<< (v9 &&& 31)))) fun σ23 =>
    zl (y1 ||| ((1 : Int32) <<< (v9 &&& 31))) fun v24 =>
    zl (y2 + 1) fun v25 =>
    L_X7_layEdges_29 n v24 v25 σ23
    )
    ) else (
    zl (y2 + 1) fun v17 =>
    L_X7_layEdges_29 n y1 v17 σ10
    )
    ) else (
    zl (zst σ10 0 30 ((σ10 0 30) + 1)) fun σ26 =>
    zb (F_X7_retreats σ26 y2) fun r28 =>
    if r28 = 0 then (
    zb (F_X7_isIn y1 v9) fun r31 =>
    if r31 = 0 then (
    zl (zst σ26 0 32 ((σ26 0 32) ||| 0)) fun σ32 =>
    zl (y1 ||| ((1 : Int32) <<< (v9 &&& 31))) fun v33 =>
    zl (y2 + 1) fun v34 =>
    L_X7_layEdges_29 n v33 v34 σ32
    ) else (
    zl (zst σ26 0 32 ((σ26 0 32) ||| ((1 : Int32) <<< (v9 &&& 31)))) fun σ35 =>
    zl (y1 ||| ((1 : Int32) <<< (v9 &&& 31))) fun v36 =>
    zl (y2 + 1) fun v37 =>
    L_X7_layEdges_29 n v36 v37 σ35
    )
    ) else (
    zl (y2 + 1) fun v29 =>
    L_X7_layEdges_29 n y1 v29 σ26
    )
    )
    ) else (
    zl (zst σ10 0 29 ((σ10 0 29) + 1)) fun σ38 =>
    zl (zst σ38 0 31 ((σ38 0 31) ||| ((1 : Int32) <<< (v9 &&& 31)))) fun σ39 =>
    zb (F_X7_retreats σ39 y2) fun r41 =>
    if r41 = 0 then (
    zb (F_X7_isIn y1 v9) fun r44 =>
    if r44 = 0 then (
    zl (zst σ39 0 32 ((σ39 0 32) ||| 0)) fun σ45 =>
    zl (y1 ||| ((1 : Int32) <<< (v9 &&& 31))) fun v46 =>
    zl (y2 + 1) fun v47 =>
    L_X7_layEdges_29 n v46 v47 σ45
    ) else (
    zl (zst σ39 0 32 ((σ39 0 32) ||| ((1 : Int32) <<< (v9 &&& 31)))) fun σ48 =>
    zl (y1 ||| ((1 : Int32) <<< (v9 &&& 31))) fun v49 =>
    zl (y2 + 1) fun v50 =>
    L_X7_layEdges_29 n v49 v50 σ48
    )
    ) else (
    zl (y2 + 1) fun v42 =>
    L_X7_layEdges_29 n y1 v42 σ39
    )
    )
    )
    )
def F_X7_layEdges (σ : SF)  : Option SF :=
  zl (zst σ 0 28 0) fun σ1 =>
  zl (zst σ1 0 29 0) fun σ2 =>
  zl (zst σ2 0 30 0) fun σ3 =>
  zl (zst σ3 0 31 0) fun σ4 =>
  zl (zst σ4 0 32 0) fun σ5 =>
  zb3 (L_X7_layEdges_29 100 0 0 σ5) fun v51 v52 σ53 =>
  some σ53
def F_X7_lay (σ : SF)  : Option SF :=
  zb (F_X7_layOrder σ) fun σ2 =>
  zb (F_X7_layLords σ2) fun σ4 =>
  zb (F_X7_layEdges σ4) fun σ6 =>
  some σ6
def F_X7_layNow (σ : SF)  : Option SF :=
  zb (F_X7_layGraph σ) fun σ2 =>
  zb (F_X7_lay σ2) fun σ4 =>
  some σ4
def L_X7_dominated_4 (σ : SF) (y1 : Int32) : Nat → Int32 → Int32 → Option (Int32 × Int32)
  | 0, _, _ => none
  | n + 1, y2, y3 =>
    if (σ 0 1) ≤ y3 then (
    some (y2, y3)
    ) else (
    zg (zin y3 8) <|
    zb (F_X7_isIn (σ 14 (y3 : Int32).toNatClampNeg) y1) fun r2 =>
    if r2 = 0 then (
    zl (y2 + 0) fun v3 =>
    zl (y3 + 1) fun v4 =>
    L_X7_dominated_4 σ y1 n v3 v4
    ) else (
    zl (y2 + 1) fun v5 =>
    zl (y3 + 1) fun v6 =>
    L_X7_dominated_4 σ y1 n v5 v6
    )
    )
def F_X7_dominated (σ : SF)  (x1 : Int32) : Option Int32 :=
  zb2 (L_X7_dominated_4 σ x1 100 0 0) fun v7 v8 =>
  some v7
def F_X7_endBy  (x0 : Int32) (x1 : Int32) (x2 : Int32) : Option Int32 :=
  if x0 = 1 then (
  some x2
  ) else (
  if x0 = 3 then (
  some ((x1 + 1) - (x1 + 1) / 2 * 2)
  ) else (
  if x0 = 4 then (
  if (x1 - x1 / 3 * 3) = 0 then (
  some 1
  ) else (
  some 0
  )
  ) else (
  some 0
  )
  )
  )
def F_X7_could  (x0 : Int32) (x1 : Int32) (x2 : Int32) : Option Int32 :=
  if x0 = 2 then (
  if x2 = 2 then (
  some 1
  ) else (
  some 0
  )
  ) else (
  if 2 ≤ x2 then (
  some 0
  ) else (
  if x0 = 1 then (
  some 1
  ) else (
  zb (F_X7_endBy x0 x1 0) fun r2 =>
  if r2 = x2 then (
  some 1
  ) else (
  some 0
  )
  )
  )
  )
def L_X7_sortsOf_15 (σ : SF) (y1 : Int32) (y2 : Int32) (y3 : Int32) : Nat → Int32 → Int32 → Option (Int32 × Int32)
  | 0, _, _ => none
  | n + 1, y4, y5 =>
    if (σ 0 7) ≤ y5 then (
    some (y4, y5)
    ) else (
    if y4 = 0 then (
    zl (y5 + 1) fun v1 =>
    L_X7_sortsOf_15 σ y1 y2 y3 n 0 v1
    ) else (
    zg (zin y5 6) <|
    if (σ 4 (y5 : Int32).toNatClampNeg) = y1 then (
    zg (zin y5 6) <|
    zg (zin y5 6) <|
    zb (F_X7_could y3 (σ 5 (y5 : Int32).toNatClampNeg) (σ 6 (y5 : Int32).toNatClampNeg)) fun r4 =>
    if r4 = 0 then (
    zl (y5 + 1) fun v5 =>
    L_X7_sortsOf_15 σ y1 y2 y3 n 0 v5
    ) else (
    zl (y5 + 1) fun v6 =>
    L_X7_sortsOf_15 σ y1 y2 y3 n 1 v6
    )
    ) else (
    zl (y5 + 1) fun v2 =>
    L_X7_sortsOf_15 σ y1 y2 y3 n 1 v2
    )
    )
    )
def L_X7_sortsOf_4 (σ : SF) (y1 : Int32) : Nat → Int32 → Int32 → Option (Int32 × Int32)
  | 0, _, _ => none
  | n + 1, y2, y3 =>
    if 4 < y3 then (
    some (y2, y3)
    ) else (
    zb2 (L_X7_sortsOf_15 σ y1 y2 y3 100 1 0) fun v7 v8 =>
    if v7 = 0 then (
    zl (y2 ||| 0) fun v10 =>
    zl (y3 + 1) fun v11 =>
    L_X7_sortsOf_4 σ y1 n v10 v11
    ) else (
    zl (y2 ||| ((1 : Int32) <<< (y3 &&& 31))) fun v12 =>
    zl (y3 + 1) fun v13 =>
    L_X7_sortsOf_4 σ y1 n v12 v13
    )
    )
def F_X7_sortsOf (σ : SF)  (x1 : Int32) : Option Int32 :=
  zb2 (L_X7_sortsOf_4 σ x1 100 0 0) fun v14 v15 =>
  some v14
def L_X7_askOf_44 (σ : SF) (y2 : Int32) (y3 : Int32) (y4 : Int32) (y5 : Int32) (y6 : Int32) (y7 : Int32) : Nat → Int32 → Int32 → Option (Int32 × Int32)
  | 0, _, _ => none
  | n + 1, y8, y9 =>
    if 4 < y9 then (
    some (y8, y9)
    ) else (
    zb (F_X7_isIn y2 y9) fun r4 =>
    if r4 = 0 then (
    zl (y8 + 0) fun v5 =>
    zl (y9 + 1) fun v6 =>
    L_X7_askOf_44 σ y2 y3 y4 y5 y6 y7 n v5 v6
    ) else (
    zb (F_X7_could y9 y5 y7) fun r8 =>
    if r8 = 0 then (
    zl (y8 + 0) fun v9 =>
    zl (y9 + 1) fun v10 =>
    L_X7_askOf_44 σ y2 y3 y4 y5 y6 y7 n v9 v10
    ) else (
    zl (y8 + 1) fun v11 =>
    zl (y9 + 1) fun v12 =>
    L_X7_askOf_44 σ y2 y3 y4 y5 y6 y7 n v11 v12
    )
    )
    )
def L_X7_askOf_32 (σ : SF) (y2 : Int32) (y3 : Int32) (y4 : Int32) (y5 : Int32) : Nat → Int32 → Int32 → Option (Int32 × Int32)
  | 0, _, _ => none
  | n + 1, y6, y7 =>
    if 3 ≤ y7 then (
    some (y6, y7)
    ) else (
    zb2 (L_X7_askOf_44 σ y2 y3 y4 y5 y6 y7 100 0 0) fun v13 v14 =>
    if v13 ≤ y6 then (
    zl (y7 + 1) fun v16 =>
    L_X7_askOf_32 σ y2 y3 y4 y5 n y6 v16
    ) else (
    zl (y7 + 1) fun v17 =>
    L_X7_askOf_32 σ y2 y3 y4 y5 n v13 v17
    )
    )
def L_X7_askOf_16 (σ : SF) (y2 : Int32) : Nat → Int32 → Int32 → Int32 → Option (Int32 × Int32 × Int32)
  | 0, _, _, _ => none
  | n + 1, y3, y4, y5 =>
    if 4 ≤ y5 then (
    some (y3, y4, y5)
    ) else (
    if y2 = 0 then (
    some (y3, y4, y5)
    ) else (
    zb2 (L_X7_askOf_32 σ y2 y3 y4 y5 100 0 0) fun v18 v19 =>
    if y4 ≤ v18 then (
    if y4 ≤ v18 then (
    zl (y5 + 1) fun v21 =>
    L_X7_askOf_16 σ y2 n y3 y4 v21
    ) else (
    zl (y5 + 1) fun v22 =>
    L_X7_askOf_16 σ y2 n y3 v18 v22
    )
    ) else (
    if y4 ≤ v18 then (
    zl (y5 + 1) fun v23 =>
    L_X7_askOf_16 σ y2 n y5 y4 v23
    ) else (
    zl (y5 + 1) fun v24 =>
    L_X7_askOf_16 σ y2 n y5 v18 v24
    )
    )
    )
    )
def F_X7_askOf (σ : SF)  (x1 : Int32) : Option Int32 :=
  zb (F_X7_sortsOf σ x1) fun r2 =>
  zb3 (L_X7_askOf_16 σ r2 100 (-1) 268435456 1) fun v25 v26 v27 =>
  some v25
def F_X7_nodeNow (σ : SF)  (x1 : Int32) (x2 : Int32) : Option Int32 :=
  if x2 = 0 then (
  zg (zin x1 8) <|
  some (σ 1 (x1 : Int32).toNatClampNeg)
  ) else (
  if x2 = 1 then (
  zl ((((2 : Int32) * x1) + x2) - 1) fun v1 =>
  zg (zin v1 16) <|
  some (σ 2 (v1 : Int32).toNatClampNeg)
  ) else (
  if x2 = 2 then (
  zl ((((2 : Int32) * x1) + x2) - 1) fun v2 =>
  zg (zin v2 16) <|
  some (σ 2 (v2 : Int32).toNatClampNeg)
  ) else (
  if x2 = 3 then (
  zb (F_X7_isIn (σ 0 22) x1) fun r4 =>
  if r4 = 0 then (
  some (-1)
  ) else (
  zg (zin x1 8) <|
  some (σ 13 (x1 : Int32).toNatClampNeg)
  )
  ) else (
  if x2 = 4 then (
  zg (zin x1 8) <|
  some (σ 15 (x1 : Int32).toNatClampNeg)
  ) else (
  if x2 = 5 then (
  zb (F_X7_isIn (σ 0 31) x1) fun r6 =>
  if r6 = 0 then (
  some 0
  ) else (
  some 1
  )
  ) else (
  if x2 = 6 then (
  zb (F_X7_isIn (σ 0 32) x1) fun r8 =>
  if r8 = 0 then (
  some 0
  ) else (
  some 1
  )
  ) else (
  if x2 = 7 then (
  zb (F_X7_dominated σ x1) fun r10 =>
  some r10
  ) else (
  if x2 = 8 then (
  zb (F_X7_sortsOf σ x1) fun r12 =>
  some r12
  ) else (
  zb (F_X7_askOf σ x1) fun r14 =>
  some r14
  )
  )
  )
  )
  )
  )
  )
  )
  )
def F_X7_node (σ : SF)  (x1 : Int32) (x2 : Int32) : Option (Int32 × SF) :=
  zb (F_X7_isNode σ x1) fun r2 =>
  if r2 = 0 then (
  some ((-101), σ)
  ) else (
  zb (F_X7_within x2 0 9) fun r4 =>
  if r4 = 0 then (
  some ((-102), σ)
  ) else (
  zb (F_X7_layNow σ) fun σ6 =>
  zb (F_X7_nodeNow σ6 x1 x2) fun r8 =>
  some (r8, σ6)
  )
  )
def F_X7_as (σ : SF)  (x1 : Int32) (x2 : Int32) : Option Int32 :=
  zb (F_X7_isNode σ x1) fun r2 =>
  if r2 = 0 then (
  some (-101)
  ) else (
  zb (F_X7_within x2 0 4) fun r4 =>
  if r4 = 0 then (
  some (-102)
  ) else (
  zg (zin x1 8) <|
  zl (σ 1 (x1 : Int32).toNatClampNeg) fun v5 =>
  if x2 = 0 then (
  some x1
  ) else (
  if v5 = x2 then (
  some x1
  ) else (
  if x2 = 3 then (
  if v5 = 4 then (
  some x1
  ) else (
  some (-1)
  )
  ) else (
  some (-1)
  )
  )
  )
  )
  )
def F_X7_dominates (σ : SF)  (x1 : Int32) (x2 : Int32) : Option (Int32 × SF) :=
  zb (F_X7_isNode σ x1) fun r2 =>
  if r2 = 0 then (
  some ((-101), σ)
  ) else (
  zb (F_X7_isNode σ x2) fun r4 =>
  if r4 = 0 then (
  some ((-101), σ)
  ) else (
  zb (F_X7_layNow σ) fun σ6 =>
  zg (zin x2 8) <|
  zb (F_X7_isIn (σ6 14 (x2 : Int32).toNatClampNeg) x1) fun r8 =>
  if r8 = 0 then (
  some (0, σ6)
  ) else (
  some (1, σ6)
  )
  )
  )
def F_X7_edgeNow (σ : SF)  (x1 : Int32) : Option Int32 :=
  zb (F_X7_isLive σ x1) fun r2 =>
  if r2 = 0 then (
  some (-1)
  ) else (
  zb (F_X7_isBack σ x1) fun r4 =>
  if r4 = 0 then (
  zb (F_X7_retreats σ x1) fun r6 =>
  if r6 = 0 then (
  some 0
  ) else (
  some 2
  )
  ) else (
  some 1
  )
  )
def F_X7_edge (σ : SF)  (x1 : Int32) (x2 : Int32) : Option (Int32 × SF) :=
  zb (F_X7_isNode σ x1) fun r2 =>
  if r2 = 0 then (
  some ((-101), σ)
  ) else (
  zb (F_X7_within x2 0 1) fun r4 =>
  if r4 = 0 then (
  some ((-102), σ)
  ) else (
  zb (F_X7_layNow σ) fun σ6 =>
  zb (F_X7_edgeNow σ6 (((2 : Int32) * x1) + x2)) fun r8 =>
  some (r8, σ6)
  )
  )
def F_X7_aim (σ : SF)  (x1 : Int32) (x2 : Int32) (x3 : Int32) : Option (Int32 × SF) :=
  zb (F_X7_isNode σ x1) fun r2 =>
  if r2 = 0 then (
  some ((-101), σ)
  ) else (
  zb (F_X7_isNode σ x3) fun r4 =>
  if r4 = 0 then (
  some ((-101), σ)
  ) else (
  zb (F_X7_within x2 0 1) fun r6 =>
  if r6 = 0 then (
  some ((-102), σ)
  ) else (
  zl (((2 : Int32) * x1) + x2) fun v7 =>
  zg (zin v7 16) <|
  zl (σ 2 (v7 : Int32).toNatClampNeg) fun v8 =>
  zg (zin (((2 : Int32) * x1) + x2) 16) <|
  zl (zst σ 2 (((2 : Int32) * x1) + x2 : Int32).toNatClampNeg x3) fun σ9 =>
  some (v8, σ9)
  )
  )
  )
def F_X7_be (σ : SF)  (x1 : Int32) (x2 : Int32) : Option (Int32 × SF) :=
  zb (F_X7_isNode σ x1) fun r2 =>
  if r2 = 0 then (
  some ((-101), σ)
  ) else (
  zb (F_X7_within x2 0 4) fun r4 =>
  if r4 = 0 then (
  some ((-102), σ)
  ) else (
  zg (zin x1 8) <|
  zl (σ 1 (x1 : Int32).toNatClampNeg) fun v5 =>
  zg (zin x1 8) <|
  zl (zst σ 1 (x1 : Int32).toNatClampNeg x2) fun σ6 =>
  some (v5, σ6)
  )
  )
def L_X7_walkNow_2 (y1 : Int32) : Nat → Int32 → SF → Option (Int32 × SF)
  | 0, _, _ => none
  | n + 1, y2, σ =>
    if 8 ≤ y2 then (
    some (y2, σ)
    ) else (
    zg (zin y2 8) <|
    zl (zst σ 18 (y2 : Int32).toNatClampNeg 0) fun σ1 =>
    zl (y2 + 1) fun v2 =>
    L_X7_walkNow_2 y1 n v2 σ1
    )
def L_X7_walkNow_33 : Nat → Int32 → Int32 → Int32 → SF → Option (Int32 × Int32 × Int32 × SF)
  | 0, _, _, _, _ => none
  | n + 1, y2, y3, y4, σ =>
    if y4 = 0 then (
    some (y2, y3, y4, σ)
    ) else (
    zg (zin (σ 0 4) 30) <|
    zl (zst σ 3 (σ 0 4 : Int32).toNatClampNeg y2) fun σ7 =>
    zl (zst σ7 0 4 ((σ7 0 4) + 1)) fun σ8 =>
    zg (zin y2 8) <|
    zg (zin y2 8) <|
    zl (zst σ8 18 (y2 : Int32).toNatClampNeg ((σ8 18 (y2 : Int32).toNatClampNeg) + 1)) fun σ9 =>
    zg (zin y2 8) <|
    if (σ9 1 (y2 : Int32).toNatClampNeg) = 2 then (
    zg (zin y2 8) <|
    zg (zin y2 8) <|
    zb (F_X7_endBy (σ9 1 (y2 : Int32).toNatClampNeg) (σ9 18 (y2 : Int32).toNatClampNeg) (y3 &&& 1)) fun r11 =>
    zg (zin y2 8) <|
    if (σ9 1 (y2 : Int32).toNatClampNeg) = 1 then (
    zl (y3 >>> (1 &&& 31)) fun v14 =>
    zl (((2 : Int32) * y2) + r11) fun v15 =>
    zg (zin v15 16) <|
    zl (σ9 2 (v15 : Int32).toNatClampNeg) fun v16 =>
    L_X7_walkNow_33 n v16 v14 0 σ9
    ) else (
    zl (((2 : Int32) * y2) + r11) fun v12 =>
    zg (zin v12 16) <|
    zl (σ9 2 (v12 : Int32).toNatClampNeg) fun v13 =>
    L_X7_walkNow_33 n v13 y3 0 σ9
    )
    ) else (
    if 30 ≤ (σ9 0 4) then (
    zg (zin y2 8) <|
    zg (zin y2 8) <|
    zb (F_X7_endBy (σ9 1 (y2 : Int32).toNatClampNeg) (σ9 18 (y2 : Int32).toNatClampNeg) (y3 &&& 1)) fun r18 =>
    zg (zin y2 8) <|
    if (σ9 1 (y2 : Int32).toNatClampNeg) = 1 then (
    zl (y3 >>> (1 &&& 31)) fun v21 =>
    zl (((2 : Int32) * y2) + r18) fun v22 =>
    zg (zin v22 16) <|
    zl (σ9 2 (v22 : Int32).toNatClampNeg) fun v23 =>
    L_X7_walkNow_33 n v23 v21 0 σ9
    ) else (
    zl (((2 : Int32) * y2) + r18) fun v19 =>
    zg (zin v19 16) <|
    zl (σ9 2 (v19 : Int32).toNatClampNeg) fun v20 =>
    L_X7_walkNow_33 n v20 y3 0 σ9
    )
    ) else (
    zg (zin y2 8) <|
    zg (zin y2 8) <|
    zb (F_X7_endBy (σ9 1 (y2 : Int32).toNatClampNeg) (σ9 18 (y2 : Int32).toNatClampNeg) (y3 &&& 1)) fun r25 =>
    zg (zin y2 8) <|
    if (σ9 1 (y2 : Int32).toNatClampNeg) = 1 then (
    zl (y3 >>> (1 &&& 31)) fun v28 =>
    zl (((2 : Int32) * y2) + r25) fun v29 =>
    zg (zin v29 16) <|
    zl (σ9 2 (v29 : Int32).toNatClampNeg) fun v30 =>
    L_X7_walkNow_33 n v30 v28 1 σ9
    ) else (
    zl (((2 : Int32) * y2) + r25) fun v26 =>
    zg (zin v26 16) <|
    zl (σ9 2 (v26 : Int32).toNatClampNeg) fun v27 =>
    L_X7_walkNow_33 n v27 y3 1 σ9
    )
    )
    )
    )
def F_X7_walkNow (σ : SF)  (x1 : Int32) : Option (Int32 × SF) :=
  zb2 (L_X7_walkNow_2 x1 100 0 σ) fun v3 σ4 =>
  zl (zst σ4 0 4 0) fun σ6 =>
  zb4 (L_X7_walkNow_33 100 0 x1 1 σ6) fun v31 v32 v33 σ34 =>
  some (σ34 0 4, σ34)
def F_X7_walk (σ : SF)  (x1 : Int32) : Option (Int32 × SF) :=
  if 0 ≤ x1 then (
  if (σ 0 1) = 0 then (
  some ((-103), σ)
  ) else (
  zb2 (F_X7_walkNow σ x1) fun r3 σ2 =>
  some (r3, σ2)
  )
  ) else (
  some ((-102), σ)
  )
def F_X7_visit (σ : SF)  (x1 : Int32) : Option Int32 :=
  zb (F_X7_within x1 0 ((σ 0 4) - 1)) fun r2 =>
  if r2 = 0 then (
  some (-101)
  ) else (
  zg (zin x1 30) <|
  some (σ 3 (x1 : Int32).toNatClampNeg)
  )
def F_X7_tell (σ : SF)  (x1 : Int32) : Option SF :=
  zg (zin (σ 0 36) 128) <|
  zl (zst σ 19 (σ 0 36 : Int32).toNatClampNeg x1) fun σ1 =>
  zl (zst σ1 0 36 ((σ1 0 36) + 1)) fun σ2 =>
  some σ2
def F_X7_later (σ : SF)  (x1 : Int32) : Option SF :=
  zg (zin (σ 0 41) 256) <|
  zl (zst σ 20 (σ 0 41 : Int32).toNatClampNeg x1) fun σ1 =>
  zl (zst σ1 0 41 ((σ1 0 41) + 1)) fun σ2 =>
  some σ2
def F_X7_opens (σ : SF)  (x1 : Int32) : Option SF :=
  zg (zin (σ 0 43) 64) <|
  zl (zst σ 21 (σ 0 43 : Int32).toNatClampNeg x1) fun σ1 =>
  zl (zst σ1 0 43 ((σ1 0 43) + 1)) fun σ2 =>
  if (σ2 0 43) ≤ (σ2 0 39) then (
  zl (zst σ2 0 39 (σ2 0 39)) fun σ3 =>
  some σ3
  ) else (
  zl (zst σ2 0 39 (σ2 0 43)) fun σ4 =>
  some σ4
  )
def L_X7_depthOf_7 (σ : SF) (y1 : Int32) : Nat → Int32 → Option (Int32)
  | 0, _ => none
  | n + 1, y2 =>
    zg (zin y2 64) <|
    if (σ 21 (y2 : Int32).toNatClampNeg) = y1 then (
    some y2
    ) else (
    zl (y2 + (-1)) fun v2 =>
    L_X7_depthOf_7 σ y1 n v2
    )
def F_X7_depthOf (σ : SF)  (x1 : Int32) : Option Int32 :=
  zl ((σ 0 43) - 1) fun v1 =>
  zb (L_X7_depthOf_7 σ x1 100 v1) fun v3 =>
  some (((σ 0 43) - 1) - v3)
def F_X7_goOut (σ : SF)  (x1 : Int32) (x2 : Int32) : Option SF :=
  zb (F_X7_depthOf σ x2) fun r2 =>
  zb (F_X7_tell σ (x1 + r2)) fun σ4 =>
  zl (zst σ4 0 37 ((σ4 0 37) + 1)) fun σ5 =>
  zl (zst σ5 0 38 ((σ5 0 38) + r2)) fun σ6 =>
  some σ6
def F_X7_isBlock (σ : SF)  (x1 : Int32) (x2 : Int32) : Option Int32 :=
  zg (zin x2 8) <|
  if (σ 15 (x2 : Int32).toNatClampNeg) = x1 then (
  zb (F_X7_isIn (σ 0 32) x2) fun r2 =>
  if r2 = 0 then (
  some 0
  ) else (
  zb (F_X7_isIn (σ 0 22) x2) fun r4 =>
  if r4 = 0 then (
  some 0
  ) else (
  some 1
  )
  )
  ) else (
  some 0
  )
def L_X7_layWithin_7 (y1 : Int32) : Nat → Int32 → SF → Option (Int32 × SF)
  | 0, _, _ => none
  | n + 1, y2, σ =>
    if y2 < 0 then (
    some (y2, σ)
    ) else (
    zg (zin y2 8) <|
    zb (F_X7_isBlock σ y1 (σ 12 (y2 : Int32).toNatClampNeg)) fun r3 =>
    if r3 = 0 then (
    zl (y2 + (-1)) fun v4 =>
    L_X7_layWithin_7 y1 n v4 σ
    ) else (
    zg (zin y2 8) <|
    zb (F_X7_later σ ((1000 : Int32) + (σ 12 (y2 : Int32).toNatClampNeg))) fun σ6 =>
    zb (F_X7_later σ6 6301) fun σ8 =>
    zl (y2 + (-1)) fun v9 =>
    L_X7_layWithin_7 y1 n v9 σ8
    )
    )
def L_X7_layWithin_116 (y1 : Int32) : Nat → Int32 → SF → Option (Int32 × SF)
  | 0, _, _ => none
  | n + 1, y3, σ =>
    if (σ 0 23) ≤ y3 then (
    some (y3, σ)
    ) else (
    zg (zin y3 8) <|
    zb (F_X7_isBlock σ y1 (σ 12 (y3 : Int32).toNatClampNeg)) fun r18 =>
    if r18 = 0 then (
    zl (y3 + 1) fun v19 =>
    L_X7_layWithin_116 y1 n v19 σ
    ) else (
    zg (zin y3 8) <|
    zb (F_X7_later σ ((5000 : Int32) + (σ 12 (y3 : Int32).toNatClampNeg))) fun σ21 =>
    zl (y3 + 1) fun v22 =>
    L_X7_layWithin_116 y1 n v22 σ21
    )
    )
def F_X7_layWithin (σ : SF)  (x1 : Int32) : Option SF :=
  zl ((σ 0 23) - 1) fun v1 =>
  zb2 (L_X7_layWithin_7 x1 100 v1 σ) fun v10 σ11 =>
  zg (zin x1 8) <|
  zb (F_X7_ends (σ11 10 (x1 : Int32).toNatClampNeg)) fun r14 =>
  if r14 ≤ 1 then (
  if r14 ≤ 0 then (
  zb (F_X7_later σ11 x1) fun σ16 =>
  zb2 (L_X7_layWithin_116 x1 100 0 σ16) fun v23 σ24 =>
  some σ24
  ) else (
  zb (F_X7_later σ11 ((3000 : Int32) + ((2 : Int32) * x1))) fun σ27 =>
  zb (F_X7_later σ27 x1) fun σ29 =>
  zb2 (L_X7_layWithin_116 x1 100 0 σ29) fun v30 σ31 =>
  some σ31
  )
  ) else (
  zb (F_X7_later σ11 401) fun σ34 =>
  zb (F_X7_later σ34 (((3000 : Int32) + ((2 : Int32) * x1)) + 1)) fun σ36 =>
  zb (F_X7_later σ36 400) fun σ38 =>
  if r14 ≤ 0 then (
  zb (F_X7_later σ38 x1) fun σ40 =>
  zb2 (L_X7_layWithin_116 x1 100 0 σ40) fun v41 σ42 =>
  some σ42
  ) else (
  zb (F_X7_later σ38 ((3000 : Int32) + ((2 : Int32) * x1))) fun σ45 =>
  zb (F_X7_later σ45 x1) fun σ47 =>
  zb2 (L_X7_layWithin_116 x1 100 0 σ47) fun v48 σ49 =>
  some σ49
  )
  )
def F_X7_layTree (σ : SF)  (x1 : Int32) : Option SF :=
  zb (F_X7_isIn (σ 0 31) x1) fun r2 =>
  if r2 = 0 then (
  zb (F_X7_later σ ((2000 : Int32) + x1)) fun σ4 =>
  some σ4
  ) else (
  zb (F_X7_later σ 6300) fun σ6 =>
  zb (F_X7_later σ6 ((2000 : Int32) + x1)) fun σ8 =>
  zb (F_X7_later σ8 ((4000 : Int32) + x1)) fun σ10 =>
  some σ10
  )
def F_X7_branch (σ : SF)  (x1 : Int32) : Option SF :=
  zg (zin x1 16) <|
  zl (σ 11 (x1 : Int32).toNatClampNeg) fun v1 =>
  zb (F_X7_retreats σ x1) fun r3 =>
  if r3 = 0 then (
  zb (F_X7_isIn (σ 0 32) v1) fun r5 =>
  if r5 = 0 then (
  zb (F_X7_later σ ((1000 : Int32) + v1)) fun σ7 =>
  some σ7
  ) else (
  zb (F_X7_goOut σ 600 ((5000 : Int32) + v1)) fun σ9 =>
  some σ9
  )
  ) else (
  zb (F_X7_goOut σ 500 ((4000 : Int32) + v1)) fun σ11 =>
  some σ11
  )
def F_X7_doNext (σ : SF)  (x1 : Int32) : Option SF :=
  zl ((x1 / 1000) * 1000) fun v1 =>
  zl (x1 - x1 / 1000 * 1000) fun v2 =>
  if v1 = 1000 then (
  zb (F_X7_layTree σ v2) fun σ4 =>
  some σ4
  ) else (
  if v1 = 2000 then (
  zb (F_X7_layWithin σ v2) fun σ6 =>
  some σ6
  ) else (
  if v1 = 3000 then (
  zb (F_X7_branch σ v2) fun σ8 =>
  some σ8
  ) else (
  if v1 = 4000 then (
  zb (F_X7_tell σ ((100 : Int32) + v2)) fun σ10 =>
  zb (F_X7_opens σ10 x1) fun σ12 =>
  some σ12
  ) else (
  if v1 = 5000 then (
  zb (F_X7_tell σ ((200 : Int32) + v2)) fun σ14 =>
  zb (F_X7_opens σ14 x1) fun σ16 =>
  some σ16
  ) else (
  if v1 = 6000 then (
  zb (F_X7_tell σ v2) fun σ18 =>
  zl (zst σ18 0 43 ((σ18 0 43) - 1)) fun σ19 =>
  some σ19
  ) else (
  zb (F_X7_tell σ x1) fun σ21 =>
  some σ21
  )
  )
  )
  )
  )
  )
def L_X7_layFold_55 : Nat → SF → Option (SF)
  | 0, _ => none
  | n + 1, σ =>
    if (σ 0 41) ≤ 0 then (
    some σ
    ) else (
    zl (zst σ 0 41 ((σ 0 41) - 1)) fun σ9 =>
    zl (σ9 0 41) fun v10 =>
    zg (zin v10 256) <|
    zb (F_X7_doNext σ9 (σ9 20 (v10 : Int32).toNatClampNeg)) fun σ12 =>
    L_X7_layFold_55 n σ12
    )
def F_X7_layFold (σ : SF)  : Option SF :=
  zb (F_X7_layNow σ) fun σ2 =>
  zl (zst σ2 0 36 0) fun σ3 =>
  zl (zst σ3 0 37 0) fun σ4 =>
  zl (zst σ4 0 38 0) fun σ5 =>
  zl (zst σ5 0 39 0) fun σ6 =>
  zl (zst σ6 0 41 0) fun σ7 =>
  zl (zst σ7 0 43 0) fun σ8 =>
  if (σ8 0 1) ≤ 0 then (
  zb (L_X7_layFold_55 300 σ8) fun σ13 =>
  some σ13
  ) else (
  if (σ8 0 30) = 0 then (
  zb (F_X7_later σ8 1000) fun σ18 =>
  zb (L_X7_layFold_55 300 σ18) fun σ19 =>
  some σ19
  ) else (
  zb (L_X7_layFold_55 300 σ8) fun σ15 =>
  some σ15
  )
  )
def F_X7_sign (σ : SF)  (x1 : Int32) : Option (Int32 × SF) :=
  if (σ 0 1) = 0 then (
  some ((-101), σ)
  ) else (
  zb (F_X7_layFold σ) fun σ2 =>
  zb (F_X7_within x1 0 ((σ2 0 36) - 1)) fun r4 =>
  if r4 = 0 then (
  some ((-101), σ2)
  ) else (
  zg (zin x1 128) <|
  some (σ2 19 (x1 : Int32).toNatClampNeg, σ2)
  )
  )
def F_X7_foldNow (σ : SF)  (x1 : Int32) : Option Int32 :=
  if (σ 0 30) ≤ 0 then (
  if x1 = 0 then (
  some (σ 0 36)
  ) else (
  if x1 = 1 then (
  some (σ 0 37)
  ) else (
  if x1 = 2 then (
  some (σ 0 38)
  ) else (
  some (σ 0 39)
  )
  )
  )
  ) else (
  some (-1)
  )
def F_X7_fold (σ : SF)  (x1 : Int32) : Option (Int32 × SF) :=
  zb (F_X7_within x1 0 3) fun r2 =>
  if r2 = 0 then (
  some ((-102), σ)
  ) else (
  if (σ 0 1) = 0 then (
  some ((-103), σ)
  ) else (
  zb (F_X7_layFold σ) fun σ4 =>
  zb (F_X7_foldNow σ4 x1) fun r6 =>
  some (r6, σ4)
  )
  )
def L_X7_mendSet_8 (σ : SF) : Nat → Int32 → Int32 → Option (Int32 × Int32)
  | 0, _, _ => none
  | n + 1, y1, y2 =>
    if ((2 : Int32) * (σ 0 1)) ≤ y2 then (
    some (y1, y2)
    ) else (
    zb (F_X7_isLive σ y2) fun r4 =>
    if r4 = 0 then (
    zl (y1 ||| 0) fun v5 =>
    zl (y2 + 1) fun v6 =>
    L_X7_mendSet_8 σ n v5 v6
    ) else (
    zl (y1 ||| ((1 : Int32) <<< (y2 &&& 31))) fun v7 =>
    zl (y2 + 1) fun v8 =>
    L_X7_mendSet_8 σ n v7 v8
    )
    )
def L_X7_mendSet_49 (y1 : Int32) : Nat → Int32 → Int32 → Int32 → SF → Option (Int32 × Int32 × Int32 × SF)
  | 0, _, _, _, _ => none
  | n + 1, y2, y3, y4, σ =>
    if y4 < 0 then (
    some (y2, y3, y4, σ)
    ) else (
    zb (F_X7_size y4) fun r13 =>
    if y3 < r13 then (
    if y4 = 0 then (
    L_X7_mendSet_49 y1 n y2 y3 (-1) σ
    ) else (
    zl ((y4 - 1) &&& y1) fun v14 =>
    L_X7_mendSet_49 y1 n y2 y3 v14 σ
    )
    ) else (
    zb (F_X7_size y4) fun r16 =>
    if 4 ≤ r16 then (
    if y4 = 0 then (
    L_X7_mendSet_49 y1 n y2 y3 (-1) σ
    ) else (
    zl ((y4 - 1) &&& y1) fun v17 =>
    L_X7_mendSet_49 y1 n y2 y3 v17 σ
    )
    ) else (
    zl (zst σ 0 19 y4) fun σ18 =>
    zb (F_X7_lay σ18) fun σ20 =>
    if (σ20 0 30) = 0 then (
    zb (F_X7_size y4) fun r23 =>
    if y4 = 0 then (
    L_X7_mendSet_49 y1 n y4 r23 (-1) σ20
    ) else (
    zl ((y4 - 1) &&& y1) fun v24 =>
    L_X7_mendSet_49 y1 n y4 r23 v24 σ20
    )
    ) else (
    if y4 = 0 then (
    L_X7_mendSet_49 y1 n y2 y3 (-1) σ20
    ) else (
    zl ((y4 - 1) &&& y1) fun v21 =>
    L_X7_mendSet_49 y1 n y2 y3 v21 σ20
    )
    )
    )
    )
    )
def F_X7_mendSet (σ : SF)  : Option (Int32 × SF) :=
  zb (F_X7_layNow σ) fun σ2 =>
  zb2 (L_X7_mendSet_8 σ2 100 0 0) fun v9 v10 =>
  zb4 (L_X7_mendSet_49 v9 70000 (-1) 4 v9 σ2) fun v25 v26 v27 σ28 =>
  some (v25, σ28)
def F_X7_mendNow (σ : SF)  (x1 : Int32) : Option (Int32 × SF) :=
  zl (zst σ 0 6 ((σ 0 6) + 1)) fun σ1 =>
  zb2 (F_X7_mendSet σ1) fun r4 σ3 =>
  if r4 = (-1) then (
  some ((-1), σ3)
  ) else (
  if x1 = 0 then (
  zb (F_X7_size r4) fun r6 =>
  some (r6, σ3)
  ) else (
  some (r4, σ3)
  )
  )
def F_X7_mend (σ : SF)  (x1 : Int32) : Option (Int32 × SF) :=
  zb (F_X7_within x1 0 1) fun r2 =>
  if r2 = 0 then (
  some ((-102), σ)
  ) else (
  if (σ 0 1) = 0 then (
  some ((-103), σ)
  ) else (
  if (σ 0 6) = 5 then (
  some ((-103), σ)
  ) else (
  zb2 (F_X7_mendNow σ x1) fun r5 σ4 =>
  some (r5, σ4)
  )
  )
  )
def F_X7_see (σ : SF)  (x1 : Int32) (x2 : Int32) (x3 : Int32) : Option (Int32 × SF) :=
  zb (F_X7_isNode σ x1) fun r2 =>
  if r2 = 0 then (
  some ((-101), σ)
  ) else (
  zb (F_X7_within x2 1 3) fun r4 =>
  if r4 = 0 then (
  some ((-102), σ)
  ) else (
  zb (F_X7_within x3 0 2) fun r6 =>
  if r6 = 0 then (
  some ((-102), σ)
  ) else (
  if (σ 0 7) = 6 then (
  some ((-104), σ)
  ) else (
  zg (zin (σ 0 7) 6) <|
  zl (zst σ 4 (σ 0 7 : Int32).toNatClampNeg x1) fun σ7 =>
  zg (zin (σ7 0 7) 6) <|
  zl (zst σ7 5 (σ7 0 7 : Int32).toNatClampNeg x2) fun σ8 =>
  zg (zin (σ8 0 7) 6) <|
  zl (zst σ8 6 (σ8 0 7 : Int32).toNatClampNeg x3) fun σ9 =>
  zl (zst σ9 0 7 ((σ9 0 7) + 1)) fun σ10 =>
  some (σ10 0 7, σ10)
  )
  )
  )
  )
def F_X7_forget (σ : SF)  : Option (Int32 × SF) :=
  zl (σ 0 7) fun v1 =>
  zl (zst σ 0 7 0) fun σ2 =>
  some (v1, σ2)
def F_X7_draw (σ : SF)  (x1 : Int32) : Option (Int32 × SF) :=
  zl (zsL σ 0 45 ((((1103515245 : Int64) * (zgL σ 0 45)) + 12345) &&& 2147483647)) fun σ1 =>
  zg (znzL ((x1 : Int32).toInt64)) <|
  some ((((zgL σ1 0 45) / 65536) - ((zgL σ1 0 45) / 65536) / ((x1 : Int32).toInt64) * ((x1 : Int32).toInt64) : Int64).toInt32, σ1)
def L_X7_drawnNow_34 (y1 : Int32) (y3 : Int32) (y4 : Int32) (y5 : Int32) (y6 : Int32) : Nat → Int32 → SF → Option (Int32 × SF)
  | 0, _, _ => none
  | n + 1, y7, σ =>
    if 5 ≤ y7 then (
    some (y7, σ)
    ) else (
    zb2 (F_X7_draw σ 5) fun r6 σ5 =>
    zg (zin y7 8) <|
    zl (zst σ5 10 (y7 : Int32).toNatClampNeg r6) fun σ7 =>
    zb2 (F_X7_draw σ7 5) fun r10 σ9 =>
    zg (zin ((2 : Int32) * y7) 16) <|
    zl (zst σ9 11 ((2 : Int32) * y7 : Int32).toNatClampNeg r10) fun σ11 =>
    zb2 (F_X7_draw σ11 5) fun r14 σ13 =>
    zg (zin (((2 : Int32) * y7) + 1) 16) <|
    zl (zst σ13 11 (((2 : Int32) * y7) + 1 : Int32).toNatClampNeg r14) fun σ15 =>
    zl (y7 + 1) fun v16 =>
    L_X7_drawnNow_34 y1 y3 y4 y5 y6 n v16 σ15
    )
def L_X7_drawnNow_15 (y1 : Int32) (y3 : Int32) : Nat → Int32 → Int32 → Int32 → SF → Option (Int32 × Int32 × Int32 × SF)
  | 0, _, _, _, _ => none
  | n + 1, y4, y5, y6, σ =>
    if y1 ≤ y6 then (
    some (y4, y5, y6, σ)
    ) else (
    zl (zst σ 0 18 5) fun σ2 =>
    zl (zst σ2 0 19 0) fun σ3 =>
    zb2 (L_X7_drawnNow_34 y1 y3 y4 y5 y6 100 0 σ3) fun v17 σ18 =>
    zb (F_X7_lay σ18) fun σ21 =>
    if (σ21 0 30) = 0 then (
    zl (y4 + 1) fun v27 =>
    zb (F_X7_size (σ21 0 31)) fun r29 =>
    zl (y5 + r29) fun v30 =>
    zl (y6 + 1) fun v31 =>
    L_X7_drawnNow_15 y1 y3 n v27 v30 v31 σ21
    ) else (
    zl (y4 + 0) fun v22 =>
    zb (F_X7_size (σ21 0 31)) fun r24 =>
    zl (y5 + r24) fun v25 =>
    zl (y6 + 1) fun v26 =>
    L_X7_drawnNow_15 y1 y3 n v22 v25 v26 σ21
    )
    )
def F_X7_drawnNow (σ : SF)  (x1 : Int32) (x2 : Int32) (x3 : Int32) : Option (Int32 × SF) :=
  zl (zsL σ 0 45 ((x2 : Int32).toInt64)) fun σ1 =>
  zb4 (L_X7_drawnNow_15 x1 x3 100 0 0 0 σ1) fun v32 v33 v34 σ35 =>
  if x3 = 0 then (
  some (v32, σ35)
  ) else (
  if x3 = 1 then (
  some (v33, σ35)
  ) else (
  some ((zgL σ35 0 45 : Int64).toInt32, σ35)
  )
  )
def F_X7_drawn (σ : SF)  (x1 : Int32) (x2 : Int32) (x3 : Int32) : Option (Int32 × SF) :=
  zb (F_X7_within x1 1 8) fun r2 =>
  if r2 = 0 then (
  some ((-102), σ)
  ) else (
  if x2 < 0 then (
  some ((-102), σ)
  ) else (
  zb (F_X7_within x3 0 2) fun r4 =>
  if r4 = 0 then (
  some ((-102), σ)
  ) else (
  zb2 (F_X7_drawnNow σ x1 x2 x3) fun r7 σ6 =>
  some (r7, σ6)
  )
  )
  )
def L_X7_image_33 : Nat → Int32 → SF → Option (Int32 × SF)
  | 0, _, _ => none
  | n + 1, y1, σ =>
    if 8 ≤ y1 then (
    some (y1, σ)
    ) else (
    zg (zin y1 8) <|
    zg (zin y1 8) <|
    zl (zst σ 22 (y1 : Int32).toNatClampNeg (σ 1 (y1 : Int32).toNatClampNeg)) fun σ4 =>
    zl ((2 : Int32) * y1) fun v5 =>
    zg (zin v5 16) <|
    zg (zin ((2 : Int32) * y1) 16) <|
    zl (zst σ4 23 ((2 : Int32) * y1 : Int32).toNatClampNeg (σ4 2 (v5 : Int32).toNatClampNeg)) fun σ6 =>
    zl (((2 : Int32) * y1) + 1) fun v7 =>
    zg (zin v7 16) <|
    zg (zin (((2 : Int32) * y1) + 1) 16) <|
    zl (zst σ6 23 (((2 : Int32) * y1) + 1 : Int32).toNatClampNeg (σ6 2 (v7 : Int32).toNatClampNeg)) fun σ8 =>
    zl (y1 + 1) fun v9 =>
    L_X7_image_33 n v9 σ8
    )
def L_X7_image_95 : Nat → Int32 → SF → Option (Int32 × SF)
  | 0, _, _ => none
  | n + 1, y1, σ =>
    if 6 ≤ y1 then (
    some (y1, σ)
    ) else (
    zg (zin y1 6) <|
    zg (zin y1 6) <|
    zl (zst σ 24 (y1 : Int32).toNatClampNeg (σ 4 (y1 : Int32).toNatClampNeg)) fun σ13 =>
    zg (zin y1 6) <|
    zg (zin y1 6) <|
    zl (zst σ13 25 (y1 : Int32).toNatClampNeg (σ13 5 (y1 : Int32).toNatClampNeg)) fun σ14 =>
    zg (zin y1 6) <|
    zg (zin y1 6) <|
    zl (zst σ14 26 (y1 : Int32).toNatClampNeg (σ14 6 (y1 : Int32).toNatClampNeg)) fun σ15 =>
    zl (y1 + 1) fun v16 =>
    L_X7_image_95 n v16 σ15
    )
def F_X7_image (σ : SF)  : Option (Int32 × SF) :=
  if (σ 0 1) = 0 then (
  some ((-103), σ)
  ) else (
  zl (zst σ 0 46 1) fun σ1 =>
  zl (zst σ1 0 47 (σ1 0 0)) fun σ2 =>
  zl (zst σ2 0 48 (σ2 0 7)) fun σ3 =>
  zb2 (L_X7_image_33 100 0 σ3) fun v10 σ11 =>
  zb2 (L_X7_image_95 100 0 σ11) fun v17 σ18 =>
  some (σ18 0 1, σ18)
  )
def L_X7_restore_31 : Nat → Int32 → SF → Option (Int32 × SF)
  | 0, _, _ => none
  | n + 1, y1, σ =>
    if 8 ≤ y1 then (
    some (y1, σ)
    ) else (
    zg (zin y1 8) <|
    zg (zin y1 8) <|
    zl (zst σ 1 (y1 : Int32).toNatClampNeg (σ 22 (y1 : Int32).toNatClampNeg)) fun σ2 =>
    zl ((2 : Int32) * y1) fun v3 =>
    zg (zin v3 16) <|
    zg (zin ((2 : Int32) * y1) 16) <|
    zl (zst σ2 2 ((2 : Int32) * y1 : Int32).toNatClampNeg (σ2 23 (v3 : Int32).toNatClampNeg)) fun σ4 =>
    zl (((2 : Int32) * y1) + 1) fun v5 =>
    zg (zin v5 16) <|
    zg (zin (((2 : Int32) * y1) + 1) 16) <|
    zl (zst σ4 2 (((2 : Int32) * y1) + 1 : Int32).toNatClampNeg (σ4 23 (v5 : Int32).toNatClampNeg)) fun σ6 =>
    zl (y1 + 1) fun v7 =>
    L_X7_restore_31 n v7 σ6
    )
def L_X7_restore_93 : Nat → Int32 → SF → Option (Int32 × SF)
  | 0, _, _ => none
  | n + 1, y1, σ =>
    if 6 ≤ y1 then (
    some (y1, σ)
    ) else (
    zg (zin y1 6) <|
    zg (zin y1 6) <|
    zl (zst σ 4 (y1 : Int32).toNatClampNeg (σ 24 (y1 : Int32).toNatClampNeg)) fun σ11 =>
    zg (zin y1 6) <|
    zg (zin y1 6) <|
    zl (zst σ11 5 (y1 : Int32).toNatClampNeg (σ11 25 (y1 : Int32).toNatClampNeg)) fun σ12 =>
    zg (zin y1 6) <|
    zg (zin y1 6) <|
    zl (zst σ12 6 (y1 : Int32).toNatClampNeg (σ12 26 (y1 : Int32).toNatClampNeg)) fun σ13 =>
    zl (y1 + 1) fun v14 =>
    L_X7_restore_93 n v14 σ13
    )
def F_X7_restore (σ : SF)  : Option (Int32 × SF) :=
  if (σ 0 46) = 0 then (
  some ((-103), σ)
  ) else (
  if (σ 0 47) = (σ 0 0) then (
  zl (zst σ 0 7 (σ 0 48)) fun σ1 =>
  zb2 (L_X7_restore_31 100 0 σ1) fun v8 σ9 =>
  zb2 (L_X7_restore_93 100 0 σ9) fun v15 σ16 =>
  some (σ16 0 1, σ16)
  ) else (
  some ((-103), σ)
  )
  )
def F_X7_ofGraph (σ : SF)  (x1 : Int32) : Option (Int32 × SF) :=
  if (σ 0 1) = 0 then (
  some (0, σ)
  ) else (
  zb (F_X7_layNow σ) fun σ2 =>
  if x1 = 1 then (
  some (σ2 0 23, σ2)
  ) else (
  if x1 = 2 then (
  some (σ2 0 28, σ2)
  ) else (
  if x1 = 3 then (
  some (σ2 0 29, σ2)
  ) else (
  if x1 = 4 then (
  some (σ2 0 30, σ2)
  ) else (
  if x1 = 5 then (
  zb (F_X7_size (σ2 0 31)) fun r6 =>
  some (r6, σ2)
  ) else (
  zb (F_X7_size (σ2 0 32)) fun r4 =>
  some (r4, σ2)
  )
  )
  )
  )
  )
  )
def F_X7_howMany (σ : SF)  (x1 : Int32) : Option (Int32 × SF) :=
  if x1 = 0 then (
  some (σ 0 1, σ)
  ) else (
  if x1 = 7 then (
  some (σ 0 4, σ)
  ) else (
  if x1 = 8 then (
  some (σ 0 7, σ)
  ) else (
  if x1 = 9 then (
  some (σ 0 11, σ)
  ) else (
  if x1 = 10 then (
  some (σ 0 0, σ)
  ) else (
  if x1 = 11 then (
  some (σ 0 6, σ)
  ) else (
  zb (F_X7_within x1 1 6) fun r2 =>
  if r2 = 0 then (
  some ((-102), σ)
  ) else (
  zb2 (F_X7_ofGraph σ x1) fun r5 σ4 =>
  some (r5, σ4)
  )
  )
  )
  )
  )
  )
  )
def F_X7_count (σ : SF)  (x1 : Int32) : Option (Int32 × SF) :=
  zb2 (F_X7_howMany σ x1) fun r3 σ2 =>
  some (r3, σ2)
def F_X7_mix (σ : SF)  (x1 : Int64) : Option SF :=
  zl (zsL σ 0 54 (((31 : Int64) * (zgL σ 0 54)) + x1)) fun σ1 =>
  some σ1
def L_X7_mixGraph_16 (y1 : Int32) : Nat → Int32 → SF → Option (Int32 × SF)
  | 0, _, _ => none
  | n + 1, y2, σ =>
    if 10 ≤ y2 then (
    some (y2, σ)
    ) else (
    zb (F_X7_nodeNow σ y1 y2) fun r4 =>
    zb (F_X7_mix σ ((r4 : Int32).toInt64)) fun σ6 =>
    zl (y2 + 1) fun v7 =>
    L_X7_mixGraph_16 y1 n v7 σ6
    )
def L_X7_mixGraph_6 : Nat → Int32 → SF → Option (Int32 × SF)
  | 0, _, _ => none
  | n + 1, y1, σ =>
    if (σ 0 1) ≤ y1 then (
    some (y1, σ)
    ) else (
    zb2 (L_X7_mixGraph_16 y1 100 0 σ) fun v8 σ9 =>
    zb (F_X7_edgeNow σ9 ((2 : Int32) * y1)) fun r12 =>
    zb (F_X7_mix σ9 ((r12 : Int32).toInt64)) fun σ14 =>
    zb (F_X7_edgeNow σ14 (((2 : Int32) * y1) + 1)) fun r16 =>
    zb (F_X7_mix σ14 ((r16 : Int32).toInt64)) fun σ18 =>
    zl (y1 + 1) fun v19 =>
    L_X7_mixGraph_6 n v19 σ18
    )
def L_X7_mixGraph_77 : Nat → Int32 → SF → Option (Int32 × SF)
  | 0, _, _ => none
  | n + 1, y1, σ =>
    if 4 ≤ y1 then (
    some (y1, σ)
    ) else (
    zb (F_X7_foldNow σ y1) fun r26 =>
    zb (F_X7_mix σ ((r26 : Int32).toInt64)) fun σ28 =>
    zl (y1 + 1) fun v29 =>
    L_X7_mixGraph_77 n v29 σ28
    )
def L_X7_mixGraph_100 : Nat → Int32 → SF → Option (Int32 × SF)
  | 0, _, _ => none
  | n + 1, y1, σ =>
    if (σ 0 36) ≤ y1 then (
    some (y1, σ)
    ) else (
    zg (zin y1 128) <|
    zb (F_X7_mix σ ((σ 19 (y1 : Int32).toNatClampNeg : Int32).toInt64)) fun σ34 =>
    zl (y1 + 1) fun v35 =>
    L_X7_mixGraph_100 n v35 σ34
    )
def F_X7_mixGraph (σ : SF)  : Option SF :=
  zb (F_X7_layNow σ) fun σ2 =>
  zb2 (L_X7_mixGraph_6 100 0 σ2) fun v20 σ21 =>
  zb (F_X7_layFold σ21) fun σ24 =>
  zb2 (L_X7_mixGraph_77 100 0 σ24) fun v30 σ31 =>
  zb2 (L_X7_mixGraph_100 100 0 σ31) fun v36 σ37 =>
  some σ37
def L_X7_digest_20 : Nat → Int32 → SF → Option (Int32 × SF)
  | 0, _, _ => none
  | n + 1, y1, σ =>
    if (σ 0 4) ≤ y1 then (
    some (y1, σ)
    ) else (
    zg (zin y1 30) <|
    zb (F_X7_mix σ ((σ 3 (y1 : Int32).toNatClampNeg : Int32).toInt64)) fun σ3 =>
    zl (y1 + 1) fun v4 =>
    L_X7_digest_20 n v4 σ3
    )
def L_X7_digest_47 : Nat → Int32 → SF → Option (Int32 × SF)
  | 0, _, _ => none
  | n + 1, y1, σ =>
    if (σ 0 11) ≤ y1 then (
    some (y1, σ)
    ) else (
    zg (zin y1 34) <|
    zb (F_X7_mix σ ((σ 7 (y1 : Int32).toNatClampNeg : Int32).toInt64)) fun σ9 =>
    zl (y1 + 1) fun v10 =>
    L_X7_digest_47 n v10 σ9
    )
def L_X7_digest_74 : Nat → Int32 → SF → Option (Int32 × SF)
  | 0, _, _ => none
  | n + 1, y1, σ =>
    if 12 ≤ y1 then (
    some (y1, σ)
    ) else (
    zb2 (F_X7_howMany σ y1) fun r16 σ15 =>
    zb (F_X7_mix σ15 ((r16 : Int32).toInt64)) fun σ18 =>
    zl (y1 + 1) fun v19 =>
    L_X7_digest_74 n v19 σ18
    )
def F_X7_digest (σ : SF)  : Option (Int64 × SF) :=
  zl (zsL σ 0 54 1381) fun σ1 =>
  if (σ1 0 1) ≤ 0 then (
  zb2 (L_X7_digest_20 100 0 σ1) fun v5 σ6 =>
  zb2 (L_X7_digest_47 100 0 σ6) fun v11 σ12 =>
  zb2 (L_X7_digest_74 100 0 σ12) fun v20 σ21 =>
  some (zgL σ21 0 54, σ21)
  ) else (
  zb (F_X7_mixGraph σ1) fun σ24 =>
  zb2 (L_X7_digest_20 100 0 σ24) fun v25 σ26 =>
  zb2 (L_X7_digest_47 100 0 σ26) fun v28 σ29 =>
  zb2 (L_X7_digest_74 100 0 σ29) fun v31 σ32 =>
  some (zgL σ32 0 54, σ32)
  )
end
