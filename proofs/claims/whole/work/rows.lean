section
-- ===== PART A: goes FIRST, ahead of the names: the tables' words, and 'selects' of the private methods out of them =====
/-- a private method of a class that the tables say can be made, by its rows of tables_1 -/
def lw_okq (q : MethodName × Nat) : Prop := (q.1.cls ≠ "java/lang/invoke/MethodHandle" ∧ q.1.cls ≠ "java/lang/invoke/VarHandle") ∧ Cond.instantiable q.1.cls q.2 ∈ tables_1 ∧ Cond.privateMethod q.1 ∈ tables_1 ∧ Cond.instanceMethod q.1 ∈ tables_1
theorem lw_p0 : lw_okq (⟨"MindReaders", "firstFault", "()I"⟩, 14) := ⟨⟨by decide +kernel, by decide +kernel⟩, List.mem_of_getElem? (i := 12) (by decide +kernel), List.mem_of_getElem? (i := 200) (by decide +kernel), List.mem_of_getElem? (i := 201) (by decide +kernel)⟩
theorem lw_p1 : lw_okq (⟨"MindReaders", "codeAt", "(I)LMindReaders$Code;"⟩, 14) := ⟨⟨by decide +kernel, by decide +kernel⟩, List.mem_of_getElem? (i := 12) (by decide +kernel), List.mem_of_getElem? (i := 279) (by decide +kernel), List.mem_of_getElem? (i := 280) (by decide +kernel)⟩
theorem lw_p2 : lw_okq (⟨"MindReaders", "isThing", "(I)Z"⟩, 14) := ⟨⟨by decide +kernel, by decide +kernel⟩, List.mem_of_getElem? (i := 12) (by decide +kernel), List.mem_of_getElem? (i := 313) (by decide +kernel), List.mem_of_getElem? (i := 314) (by decide +kernel)⟩
theorem lw_p3 : lw_okq (⟨"MindReaders", "longOf", "(LMindReaders$Code;I)I"⟩, 14) := ⟨⟨by decide +kernel, by decide +kernel⟩, List.mem_of_getElem? (i := 12) (by decide +kernel), List.mem_of_getElem? (i := 331) (by decide +kernel), List.mem_of_getElem? (i := 332) (by decide +kernel)⟩
theorem lw_p4 : lw_okq (⟨"MindReaders", "hearPage", "()Z"⟩, 14) := ⟨⟨by decide +kernel, by decide +kernel⟩, List.mem_of_getElem? (i := 12) (by decide +kernel), List.mem_of_getElem? (i := 344) (by decide +kernel), List.mem_of_getElem? (i := 345) (by decide +kernel)⟩
theorem lw_p5 : lw_okq (⟨"MindReaders", "readPage", "()Z"⟩, 14) := ⟨⟨by decide +kernel, by decide +kernel⟩, List.mem_of_getElem? (i := 12) (by decide +kernel), List.mem_of_getElem? (i := 348) (by decide +kernel), List.mem_of_getElem? (i := 349) (by decide +kernel)⟩
theorem lw_p6 : lw_okq (⟨"MindReaders$Readings", "meet", "(LMindReaders$Code;IIII)Z"⟩, 2) := ⟨⟨by decide +kernel, by decide +kernel⟩, List.mem_of_getElem? (i := 94) (by decide +kernel), List.mem_of_getElem? (i := 401) (by decide +kernel), List.mem_of_getElem? (i := 402) (by decide +kernel)⟩
theorem lw_p7 : lw_okq (⟨"MindReaders$Readings", "comeTo", "(III)Z"⟩, 2) := ⟨⟨by decide +kernel, by decide +kernel⟩, List.mem_of_getElem? (i := 94) (by decide +kernel), List.mem_of_getElem? (i := 409) (by decide +kernel), List.mem_of_getElem? (i := 410) (by decide +kernel)⟩
theorem lw_p8 : lw_okq (⟨"MindReaders$Readings", "goOn", "(LMindReaders$Code;)Z"⟩, 2) := ⟨⟨by decide +kernel, by decide +kernel⟩, List.mem_of_getElem? (i := 94) (by decide +kernel), List.mem_of_getElem? (i := 414) (by decide +kernel), List.mem_of_getElem? (i := 415) (by decide +kernel)⟩
theorem lw_p9 : lw_okq (⟨"MindReaders", "thingsSaid", "(LMindReaders$Code;)I"⟩, 14) := ⟨⟨by decide +kernel, by decide +kernel⟩, List.mem_of_getElem? (i := 12) (by decide +kernel), List.mem_of_getElem? (i := 425) (by decide +kernel), List.mem_of_getElem? (i := 426) (by decide +kernel)⟩
theorem lw_p10 : lw_okq (⟨"MindReaders", "dealtTo", "(LMindReaders$Code;I)I"⟩, 14) := ⟨⟨by decide +kernel, by decide +kernel⟩, List.mem_of_getElem? (i := 12) (by decide +kernel), List.mem_of_getElem? (i := 450) (by decide +kernel), List.mem_of_getElem? (i := 451) (by decide +kernel)⟩
theorem lw_p11 : lw_okq (⟨"MindReaders", "rankByLong", "(LMindReaders$Code;II)I"⟩, 14) := ⟨⟨by decide +kernel, by decide +kernel⟩, List.mem_of_getElem? (i := 12) (by decide +kernel), List.mem_of_getElem? (i := 457) (by decide +kernel), List.mem_of_getElem? (i := 458) (by decide +kernel)⟩
theorem lw_p12 : lw_okq (⟨"MindReaders", "leastLong", "(I)J"⟩, 14) := ⟨⟨by decide +kernel, by decide +kernel⟩, List.mem_of_getElem? (i := 12) (by decide +kernel), List.mem_of_getElem? (i := 465) (by decide +kernel), List.mem_of_getElem? (i := 466) (by decide +kernel)⟩
theorem lw_p13 : lw_okq (⟨"MindReaders", "waysNamed", "(LMindReaders$Code;III)J"⟩, 14) := ⟨⟨by decide +kernel, by decide +kernel⟩, List.mem_of_getElem? (i := 12) (by decide +kernel), List.mem_of_getElem? (i := 512) (by decide +kernel), List.mem_of_getElem? (i := 513) (by decide +kernel)⟩
theorem lw_p14 : lw_okq (⟨"MindReaders", "waysHeard", "(LMindReaders$Row;II)J"⟩, 14) := ⟨⟨by decide +kernel, by decide +kernel⟩, List.mem_of_getElem? (i := 12) (by decide +kernel), List.mem_of_getElem? (i := 519) (by decide +kernel), List.mem_of_getElem? (i := 520) (by decide +kernel)⟩
theorem lw_p15 : lw_okq (⟨"MindReaders", "notesLet", "(LMindReaders$Code;II)Z"⟩, 14) := ⟨⟨by decide +kernel, by decide +kernel⟩, List.mem_of_getElem? (i := 12) (by decide +kernel), List.mem_of_getElem? (i := 556) (by decide +kernel), List.mem_of_getElem? (i := 557) (by decide +kernel)⟩
def lw_privs_1 : List (MethodName × Nat) := [(⟨"MindReaders", "firstFault", "()I"⟩, 14), (⟨"MindReaders", "codeAt", "(I)LMindReaders$Code;"⟩, 14), (⟨"MindReaders", "isThing", "(I)Z"⟩, 14), (⟨"MindReaders", "longOf", "(LMindReaders$Code;I)I"⟩, 14), (⟨"MindReaders", "hearPage", "()Z"⟩, 14), (⟨"MindReaders", "readPage", "()Z"⟩, 14), (⟨"MindReaders$Readings", "meet", "(LMindReaders$Code;IIII)Z"⟩, 2), (⟨"MindReaders$Readings", "comeTo", "(III)Z"⟩, 2), (⟨"MindReaders$Readings", "goOn", "(LMindReaders$Code;)Z"⟩, 2), (⟨"MindReaders", "thingsSaid", "(LMindReaders$Code;)I"⟩, 14), (⟨"MindReaders", "dealtTo", "(LMindReaders$Code;I)I"⟩, 14), (⟨"MindReaders", "rankByLong", "(LMindReaders$Code;II)I"⟩, 14), (⟨"MindReaders", "leastLong", "(I)J"⟩, 14), (⟨"MindReaders", "waysNamed", "(LMindReaders$Code;III)J"⟩, 14), (⟨"MindReaders", "waysHeard", "(LMindReaders$Row;II)J"⟩, 14), (⟨"MindReaders", "notesLet", "(LMindReaders$Code;II)Z"⟩, 14)]
theorem lw_r1 : ∀ q ∈ lw_privs_1, lw_okq q := List.forall_mem_cons.mpr ⟨lw_p0, List.forall_mem_cons.mpr ⟨lw_p1, List.forall_mem_cons.mpr ⟨lw_p2, List.forall_mem_cons.mpr ⟨lw_p3, List.forall_mem_cons.mpr ⟨lw_p4, List.forall_mem_cons.mpr ⟨lw_p5, List.forall_mem_cons.mpr ⟨lw_p6, List.forall_mem_cons.mpr ⟨lw_p7, List.forall_mem_cons.mpr ⟨lw_p8, List.forall_mem_cons.mpr ⟨lw_p9, List.forall_mem_cons.mpr ⟨lw_p10, List.forall_mem_cons.mpr ⟨lw_p11, List.forall_mem_cons.mpr ⟨lw_p12, List.forall_mem_cons.mpr ⟨lw_p13, List.forall_mem_cons.mpr ⟨lw_p14, List.forall_mem_cons.mpr ⟨lw_p15, fun _ h => absurd h List.not_mem_nil⟩⟩⟩⟩⟩⟩⟩⟩⟩⟩⟩⟩⟩⟩⟩⟩
theorem lw_p16 : lw_okq (⟨"MindReaders", "waysAllSeen", "(I)J"⟩, 14) := ⟨⟨by decide +kernel, by decide +kernel⟩, List.mem_of_getElem? (i := 12) (by decide +kernel), List.mem_of_getElem? (i := 578) (by decide +kernel), List.mem_of_getElem? (i := 579) (by decide +kernel)⟩
theorem lw_p17 : lw_okq (⟨"MindReaders", "changeOf", "(LMindReaders$Code;LMindReaders$Code;)I"⟩, 14) := ⟨⟨by decide +kernel, by decide +kernel⟩, List.mem_of_getElem? (i := 12) (by decide +kernel), List.mem_of_getElem? (i := 592) (by decide +kernel), List.mem_of_getElem? (i := 593) (by decide +kernel)⟩
theorem lw_p18 : lw_okq (⟨"MindReaders", "unlike", "(LMindReaders$Code;II)I"⟩, 14) := ⟨⟨by decide +kernel, by decide +kernel⟩, List.mem_of_getElem? (i := 12) (by decide +kernel), List.mem_of_getElem? (i := 611) (by decide +kernel), List.mem_of_getElem? (i := 612) (by decide +kernel)⟩
theorem lw_p19 : lw_okq (⟨"MindReaders", "mixCode", "(JILMindReaders$Code;)J"⟩, 14) := ⟨⟨by decide +kernel, by decide +kernel⟩, List.mem_of_getElem? (i := 12) (by decide +kernel), List.mem_of_getElem? (i := 654) (by decide +kernel), List.mem_of_getElem? (i := 655) (by decide +kernel)⟩
theorem lw_p20 : lw_okq (⟨"MindReadersModel", "faultOf", "()I"⟩, 27) := ⟨⟨by decide +kernel, by decide +kernel⟩, List.mem_of_getElem? (i := 665) (by decide +kernel), List.mem_of_getElem? (i := 767) (by decide +kernel), List.mem_of_getElem? (i := 768) (by decide +kernel)⟩
theorem lw_p21 : lw_okq (⟨"MindReadersModel", "go", "(I)Z"⟩, 27) := ⟨⟨by decide +kernel, by decide +kernel⟩, List.mem_of_getElem? (i := 665) (by decide +kernel), List.mem_of_getElem? (i := 771) (by decide +kernel), List.mem_of_getElem? (i := 772) (by decide +kernel)⟩
theorem lw_p22 : lw_okq (⟨"MindReadersModel", "isSignal", "(I)Z"⟩, 27) := ⟨⟨by decide +kernel, by decide +kernel⟩, List.mem_of_getElem? (i := 665) (by decide +kernel), List.mem_of_getElem? (i := 794) (by decide +kernel), List.mem_of_getElem? (i := 795) (by decide +kernel)⟩
theorem lw_p23 : lw_okq (⟨"MindReadersModel", "isThing", "(I)Z"⟩, 27) := ⟨⟨by decide +kernel, by decide +kernel⟩, List.mem_of_getElem? (i := 665) (by decide +kernel), List.mem_of_getElem? (i := 812) (by decide +kernel), List.mem_of_getElem? (i := 813) (by decide +kernel)⟩
theorem lw_p24 : lw_okq (⟨"MindReadersModel", "isCode", "(I)Z"⟩, 27) := ⟨⟨by decide +kernel, by decide +kernel⟩, List.mem_of_getElem? (i := 665) (by decide +kernel), List.mem_of_getElem? (i := 820) (by decide +kernel), List.mem_of_getElem? (i := 821) (by decide +kernel)⟩
theorem lw_p25 : lw_okq (⟨"MindReadersModel", "speechOf", "(III)I"⟩, 27) := ⟨⟨by decide +kernel, by decide +kernel⟩, List.mem_of_getElem? (i := 665) (by decide +kernel), List.mem_of_getElem? (i := 824) (by decide +kernel), List.mem_of_getElem? (i := 825) (by decide +kernel)⟩
theorem lw_p26 : lw_okq (⟨"MindReadersModel", "layPlain", "(III)V"⟩, 27) := ⟨⟨by decide +kernel, by decide +kernel⟩, List.mem_of_getElem? (i := 665) (by decide +kernel), List.mem_of_getElem? (i := 829) (by decide +kernel), List.mem_of_getElem? (i := 830) (by decide +kernel)⟩
theorem lw_p27 : lw_okq (⟨"MindReadersModel", "stand", "(I)V"⟩, 27) := ⟨⟨by decide +kernel, by decide +kernel⟩, List.mem_of_getElem? (i := 665) (by decide +kernel), List.mem_of_getElem? (i := 833) (by decide +kernel), List.mem_of_getElem? (i := 834) (by decide +kernel)⟩
theorem lw_p28 : lw_okq (⟨"MindReadersModel", "kindOf", "(I)I"⟩, 27) := ⟨⟨by decide +kernel, by decide +kernel⟩, List.mem_of_getElem? (i := 665) (by decide +kernel), List.mem_of_getElem? (i := 837) (by decide +kernel), List.mem_of_getElem? (i := 838) (by decide +kernel)⟩
theorem lw_p29 : lw_okq (⟨"MindReadersModel", "longOf", "(II)I"⟩, 27) := ⟨⟨by decide +kernel, by decide +kernel⟩, List.mem_of_getElem? (i := 665) (by decide +kernel), List.mem_of_getElem? (i := 843) (by decide +kernel), List.mem_of_getElem? (i := 844) (by decide +kernel)⟩
theorem lw_p30 : lw_okq (⟨"MindReadersModel", "secondsOf", "(I)I"⟩, 27) := ⟨⟨by decide +kernel, by decide +kernel⟩, List.mem_of_getElem? (i := 665) (by decide +kernel), List.mem_of_getElem? (i := 847) (by decide +kernel), List.mem_of_getElem? (i := 848) (by decide +kernel)⟩
theorem lw_p31 : lw_okq (⟨"MindReadersModel", "layAll", "(II)V"⟩, 27) := ⟨⟨by decide +kernel, by decide +kernel⟩, List.mem_of_getElem? (i := 665) (by decide +kernel), List.mem_of_getElem? (i := 855) (by decide +kernel), List.mem_of_getElem? (i := 856) (by decide +kernel)⟩
def lw_privs_2 : List (MethodName × Nat) := [(⟨"MindReaders", "waysAllSeen", "(I)J"⟩, 14), (⟨"MindReaders", "changeOf", "(LMindReaders$Code;LMindReaders$Code;)I"⟩, 14), (⟨"MindReaders", "unlike", "(LMindReaders$Code;II)I"⟩, 14), (⟨"MindReaders", "mixCode", "(JILMindReaders$Code;)J"⟩, 14), (⟨"MindReadersModel", "faultOf", "()I"⟩, 27), (⟨"MindReadersModel", "go", "(I)Z"⟩, 27), (⟨"MindReadersModel", "isSignal", "(I)Z"⟩, 27), (⟨"MindReadersModel", "isThing", "(I)Z"⟩, 27), (⟨"MindReadersModel", "isCode", "(I)Z"⟩, 27), (⟨"MindReadersModel", "speechOf", "(III)I"⟩, 27), (⟨"MindReadersModel", "layPlain", "(III)V"⟩, 27), (⟨"MindReadersModel", "stand", "(I)V"⟩, 27), (⟨"MindReadersModel", "kindOf", "(I)I"⟩, 27), (⟨"MindReadersModel", "longOf", "(II)I"⟩, 27), (⟨"MindReadersModel", "secondsOf", "(I)I"⟩, 27), (⟨"MindReadersModel", "layAll", "(II)V"⟩, 27)]
theorem lw_r2 : ∀ q ∈ lw_privs_2, lw_okq q := List.forall_mem_cons.mpr ⟨lw_p16, List.forall_mem_cons.mpr ⟨lw_p17, List.forall_mem_cons.mpr ⟨lw_p18, List.forall_mem_cons.mpr ⟨lw_p19, List.forall_mem_cons.mpr ⟨lw_p20, List.forall_mem_cons.mpr ⟨lw_p21, List.forall_mem_cons.mpr ⟨lw_p22, List.forall_mem_cons.mpr ⟨lw_p23, List.forall_mem_cons.mpr ⟨lw_p24, List.forall_mem_cons.mpr ⟨lw_p25, List.forall_mem_cons.mpr ⟨lw_p26, List.forall_mem_cons.mpr ⟨lw_p27, List.forall_mem_cons.mpr ⟨lw_p28, List.forall_mem_cons.mpr ⟨lw_p29, List.forall_mem_cons.mpr ⟨lw_p30, List.forall_mem_cons.mpr ⟨lw_p31, fun _ h => absurd h List.not_mem_nil⟩⟩⟩⟩⟩⟩⟩⟩⟩⟩⟩⟩⟩⟩⟩⟩
theorem lw_p32 : lw_okq (⟨"MindReadersModel", "layPage", "()Z"⟩, 27) := ⟨⟨by decide +kernel, by decide +kernel⟩, List.mem_of_getElem? (i := 665) (by decide +kernel), List.mem_of_getElem? (i := 859) (by decide +kernel), List.mem_of_getElem? (i := 860) (by decide +kernel)⟩
theorem lw_p33 : lw_okq (⟨"MindReadersModel", "namedNow", "(I)I"⟩, 27) := ⟨⟨by decide +kernel, by decide +kernel⟩, List.mem_of_getElem? (i := 665) (by decide +kernel), List.mem_of_getElem? (i := 863) (by decide +kernel), List.mem_of_getElem? (i := 864) (by decide +kernel)⟩
theorem lw_p34 : lw_okq (⟨"MindReadersModel", "differs", "(I)I"⟩, 27) := ⟨⟨by decide +kernel, by decide +kernel⟩, List.mem_of_getElem? (i := 665) (by decide +kernel), List.mem_of_getElem? (i := 868) (by decide +kernel), List.mem_of_getElem? (i := 869) (by decide +kernel)⟩
theorem lw_p35 : lw_okq (⟨"MindReadersModel", "alikeOf", "(I)I"⟩, 27) := ⟨⟨by decide +kernel, by decide +kernel⟩, List.mem_of_getElem? (i := 665) (by decide +kernel), List.mem_of_getElem? (i := 877) (by decide +kernel), List.mem_of_getElem? (i := 878) (by decide +kernel)⟩
theorem lw_p36 : lw_okq (⟨"MindReadersModel", "isAlike", "(II)Z"⟩, 27) := ⟨⟨by decide +kernel, by decide +kernel⟩, List.mem_of_getElem? (i := 665) (by decide +kernel), List.mem_of_getElem? (i := 881) (by decide +kernel), List.mem_of_getElem? (i := 882) (by decide +kernel)⟩
theorem lw_p37 : lw_okq (⟨"MindReadersModel", "isStart", "(III)Z"⟩, 27) := ⟨⟨by decide +kernel, by decide +kernel⟩, List.mem_of_getElem? (i := 665) (by decide +kernel), List.mem_of_getElem? (i := 885) (by decide +kernel), List.mem_of_getElem? (i := 886) (by decide +kernel)⟩
theorem lw_p38 : lw_okq (⟨"MindReadersModel", "twiceOf", "(I)I"⟩, 27) := ⟨⟨by decide +kernel, by decide +kernel⟩, List.mem_of_getElem? (i := 665) (by decide +kernel), List.mem_of_getElem? (i := 897) (by decide +kernel), List.mem_of_getElem? (i := 898) (by decide +kernel)⟩
theorem lw_p39 : lw_okq (⟨"MindReadersModel", "goesOn", "(III)Z"⟩, 27) := ⟨⟨by decide +kernel, by decide +kernel⟩, List.mem_of_getElem? (i := 665) (by decide +kernel), List.mem_of_getElem? (i := 901) (by decide +kernel), List.mem_of_getElem? (i := 902) (by decide +kernel)⟩
theorem lw_p40 : lw_okq (⟨"MindReadersModel", "reach", "(III)Z"⟩, 27) := ⟨⟨by decide +kernel, by decide +kernel⟩, List.mem_of_getElem? (i := 665) (by decide +kernel), List.mem_of_getElem? (i := 905) (by decide +kernel), List.mem_of_getElem? (i := 906) (by decide +kernel)⟩
theorem lw_p41 : lw_okq (⟨"MindReadersModel", "reachBy", "(IIII)Z"⟩, 27) := ⟨⟨by decide +kernel, by decide +kernel⟩, List.mem_of_getElem? (i := 665) (by decide +kernel), List.mem_of_getElem? (i := 909) (by decide +kernel), List.mem_of_getElem? (i := 910) (by decide +kernel)⟩
theorem lw_p42 : lw_okq (⟨"MindReadersModel", "saidBy", "(I)I"⟩, 27) := ⟨⟨by decide +kernel, by decide +kernel⟩, List.mem_of_getElem? (i := 665) (by decide +kernel), List.mem_of_getElem? (i := 920) (by decide +kernel), List.mem_of_getElem? (i := 921) (by decide +kernel)⟩
theorem lw_p43 : lw_okq (⟨"MindReadersModel", "weighed", "(I)I"⟩, 27) := ⟨⟨by decide +kernel, by decide +kernel⟩, List.mem_of_getElem? (i := 665) (by decide +kernel), List.mem_of_getElem? (i := 924) (by decide +kernel), List.mem_of_getElem? (i := 925) (by decide +kernel)⟩
theorem lw_p44 : lw_okq (⟨"MindReadersModel", "oddnessOf", "(I)I"⟩, 27) := ⟨⟨by decide +kernel, by decide +kernel⟩, List.mem_of_getElem? (i := 665) (by decide +kernel), List.mem_of_getElem? (i := 938) (by decide +kernel), List.mem_of_getElem? (i := 939) (by decide +kernel)⟩
theorem lw_p45 : lw_okq (⟨"MindReadersModel", "oddOf", "(I)I"⟩, 27) := ⟨⟨by decide +kernel, by decide +kernel⟩, List.mem_of_getElem? (i := 665) (by decide +kernel), List.mem_of_getElem? (i := 942) (by decide +kernel), List.mem_of_getElem? (i := 943) (by decide +kernel)⟩
theorem lw_p46 : lw_okq (⟨"MindReadersModel", "placeOf", "(II)I"⟩, 27) := ⟨⟨by decide +kernel, by decide +kernel⟩, List.mem_of_getElem? (i := 665) (by decide +kernel), List.mem_of_getElem? (i := 952) (by decide +kernel), List.mem_of_getElem? (i := 953) (by decide +kernel)⟩
theorem lw_p47 : lw_okq (⟨"MindReadersModel", "speechAt", "(III)I"⟩, 27) := ⟨⟨by decide +kernel, by decide +kernel⟩, List.mem_of_getElem? (i := 665) (by decide +kernel), List.mem_of_getElem? (i := 956) (by decide +kernel), List.mem_of_getElem? (i := 957) (by decide +kernel)⟩
def lw_privs_3 : List (MethodName × Nat) := [(⟨"MindReadersModel", "layPage", "()Z"⟩, 27), (⟨"MindReadersModel", "namedNow", "(I)I"⟩, 27), (⟨"MindReadersModel", "differs", "(I)I"⟩, 27), (⟨"MindReadersModel", "alikeOf", "(I)I"⟩, 27), (⟨"MindReadersModel", "isAlike", "(II)Z"⟩, 27), (⟨"MindReadersModel", "isStart", "(III)Z"⟩, 27), (⟨"MindReadersModel", "twiceOf", "(I)I"⟩, 27), (⟨"MindReadersModel", "goesOn", "(III)Z"⟩, 27), (⟨"MindReadersModel", "reach", "(III)Z"⟩, 27), (⟨"MindReadersModel", "reachBy", "(IIII)Z"⟩, 27), (⟨"MindReadersModel", "saidBy", "(I)I"⟩, 27), (⟨"MindReadersModel", "weighed", "(I)I"⟩, 27), (⟨"MindReadersModel", "oddnessOf", "(I)I"⟩, 27), (⟨"MindReadersModel", "oddOf", "(I)I"⟩, 27), (⟨"MindReadersModel", "placeOf", "(II)I"⟩, 27), (⟨"MindReadersModel", "speechAt", "(III)I"⟩, 27)]
theorem lw_r3 : ∀ q ∈ lw_privs_3, lw_okq q := List.forall_mem_cons.mpr ⟨lw_p32, List.forall_mem_cons.mpr ⟨lw_p33, List.forall_mem_cons.mpr ⟨lw_p34, List.forall_mem_cons.mpr ⟨lw_p35, List.forall_mem_cons.mpr ⟨lw_p36, List.forall_mem_cons.mpr ⟨lw_p37, List.forall_mem_cons.mpr ⟨lw_p38, List.forall_mem_cons.mpr ⟨lw_p39, List.forall_mem_cons.mpr ⟨lw_p40, List.forall_mem_cons.mpr ⟨lw_p41, List.forall_mem_cons.mpr ⟨lw_p42, List.forall_mem_cons.mpr ⟨lw_p43, List.forall_mem_cons.mpr ⟨lw_p44, List.forall_mem_cons.mpr ⟨lw_p45, List.forall_mem_cons.mpr ⟨lw_p46, List.forall_mem_cons.mpr ⟨lw_p47, fun _ h => absurd h List.not_mem_nil⟩⟩⟩⟩⟩⟩⟩⟩⟩⟩⟩⟩⟩⟩⟩⟩
theorem lw_p48 : lw_okq (⟨"MindReadersModel", "shortNow", "(I)I"⟩, 27) := ⟨⟨by decide +kernel, by decide +kernel⟩, List.mem_of_getElem? (i := 665) (by decide +kernel), List.mem_of_getElem? (i := 965) (by decide +kernel), List.mem_of_getElem? (i := 966) (by decide +kernel)⟩
theorem lw_p49 : lw_okq (⟨"MindReadersModel", "takeLeast", "(I)I"⟩, 27) := ⟨⟨by decide +kernel, by decide +kernel⟩, List.mem_of_getElem? (i := 665) (by decide +kernel), List.mem_of_getElem? (i := 969) (by decide +kernel), List.mem_of_getElem? (i := 970) (by decide +kernel)⟩
theorem lw_p50 : lw_okq (⟨"MindReadersModel", "apartOf", "(I)I"⟩, 27) := ⟨⟨by decide +kernel, by decide +kernel⟩, List.mem_of_getElem? (i := 665) (by decide +kernel), List.mem_of_getElem? (i := 977) (by decide +kernel), List.mem_of_getElem? (i := 978) (by decide +kernel)⟩
theorem lw_p51 : lw_okq (⟨"MindReadersModel", "isAmong", "(II)Z"⟩, 27) := ⟨⟨by decide +kernel, by decide +kernel⟩, List.mem_of_getElem? (i := 665) (by decide +kernel), List.mem_of_getElem? (i := 991) (by decide +kernel), List.mem_of_getElem? (i := 992) (by decide +kernel)⟩
theorem lw_p52 : lw_okq (⟨"MindReadersModel", "whichNow", "()I"⟩, 27) := ⟨⟨by decide +kernel, by decide +kernel⟩, List.mem_of_getElem? (i := 665) (by decide +kernel), List.mem_of_getElem? (i := 1008) (by decide +kernel), List.mem_of_getElem? (i := 1009) (by decide +kernel)⟩
theorem lw_p53 : lw_okq (⟨"MindReadersModel", "isSaid", "(III)Z"⟩, 27) := ⟨⟨by decide +kernel, by decide +kernel⟩, List.mem_of_getElem? (i := 665) (by decide +kernel), List.mem_of_getElem? (i := 1012) (by decide +kernel), List.mem_of_getElem? (i := 1013) (by decide +kernel)⟩
theorem lw_p54 : lw_okq (⟨"MindReadersModel", "changeOf", "(II)I"⟩, 27) := ⟨⟨by decide +kernel, by decide +kernel⟩, List.mem_of_getElem? (i := 665) (by decide +kernel), List.mem_of_getElem? (i := 1029) (by decide +kernel), List.mem_of_getElem? (i := 1030) (by decide +kernel)⟩
theorem lw_p55 : lw_okq (⟨"MindReadersModel", "isLike", "(III)Z"⟩, 27) := ⟨⟨by decide +kernel, by decide +kernel⟩, List.mem_of_getElem? (i := 665) (by decide +kernel), List.mem_of_getElem? (i := 1033) (by decide +kernel), List.mem_of_getElem? (i := 1034) (by decide +kernel)⟩
theorem lw_p56 : lw_okq (⟨"MindReadersModel", "leftOf", "(II)I"⟩, 27) := ⟨⟨by decide +kernel, by decide +kernel⟩, List.mem_of_getElem? (i := 665) (by decide +kernel), List.mem_of_getElem? (i := 1050) (by decide +kernel), List.mem_of_getElem? (i := 1051) (by decide +kernel)⟩
theorem lw_p57 : lw_okq (⟨"MindReadersModel", "stopOf", "(I)I"⟩, 27) := ⟨⟨by decide +kernel, by decide +kernel⟩, List.mem_of_getElem? (i := 665) (by decide +kernel), List.mem_of_getElem? (i := 1058) (by decide +kernel), List.mem_of_getElem? (i := 1059) (by decide +kernel)⟩
theorem lw_p58 : lw_okq (⟨"MindReadersModel", "countOf", "(I)I"⟩, 27) := ⟨⟨by decide +kernel, by decide +kernel⟩, List.mem_of_getElem? (i := 665) (by decide +kernel), List.mem_of_getElem? (i := 1074) (by decide +kernel), List.mem_of_getElem? (i := 1075) (by decide +kernel)⟩
theorem lw_p59 : lw_okq (⟨"MindReadersModel", "say", "(J)V"⟩, 27) := ⟨⟨by decide +kernel, by decide +kernel⟩, List.mem_of_getElem? (i := 665) (by decide +kernel), List.mem_of_getElem? (i := 1083) (by decide +kernel), List.mem_of_getElem? (i := 1084) (by decide +kernel)⟩
theorem lw_p60 : lw_okq (⟨"MindReadersModel", "sayCode", "(I)V"⟩, 27) := ⟨⟨by decide +kernel, by decide +kernel⟩, List.mem_of_getElem? (i := 665) (by decide +kernel), List.mem_of_getElem? (i := 1088) (by decide +kernel), List.mem_of_getElem? (i := 1089) (by decide +kernel)⟩
def lw_privs_4 : List (MethodName × Nat) := [(⟨"MindReadersModel", "shortNow", "(I)I"⟩, 27), (⟨"MindReadersModel", "takeLeast", "(I)I"⟩, 27), (⟨"MindReadersModel", "apartOf", "(I)I"⟩, 27), (⟨"MindReadersModel", "isAmong", "(II)Z"⟩, 27), (⟨"MindReadersModel", "whichNow", "()I"⟩, 27), (⟨"MindReadersModel", "isSaid", "(III)Z"⟩, 27), (⟨"MindReadersModel", "changeOf", "(II)I"⟩, 27), (⟨"MindReadersModel", "isLike", "(III)Z"⟩, 27), (⟨"MindReadersModel", "leftOf", "(II)I"⟩, 27), (⟨"MindReadersModel", "stopOf", "(I)I"⟩, 27), (⟨"MindReadersModel", "countOf", "(I)I"⟩, 27), (⟨"MindReadersModel", "say", "(J)V"⟩, 27), (⟨"MindReadersModel", "sayCode", "(I)V"⟩, 27)]
theorem lw_r4 : ∀ q ∈ lw_privs_4, lw_okq q := List.forall_mem_cons.mpr ⟨lw_p48, List.forall_mem_cons.mpr ⟨lw_p49, List.forall_mem_cons.mpr ⟨lw_p50, List.forall_mem_cons.mpr ⟨lw_p51, List.forall_mem_cons.mpr ⟨lw_p52, List.forall_mem_cons.mpr ⟨lw_p53, List.forall_mem_cons.mpr ⟨lw_p54, List.forall_mem_cons.mpr ⟨lw_p55, List.forall_mem_cons.mpr ⟨lw_p56, List.forall_mem_cons.mpr ⟨lw_p57, List.forall_mem_cons.mpr ⟨lw_p58, List.forall_mem_cons.mpr ⟨lw_p59, List.forall_mem_cons.mpr ⟨lw_p60, fun _ h => absurd h List.not_mem_nil⟩⟩⟩⟩⟩⟩⟩⟩⟩⟩⟩⟩⟩
def lw_privs : List (MethodName × Nat) := lw_privs_1 ++ (lw_privs_2 ++ (lw_privs_3 ++ (lw_privs_4)))
def lw_tbl : List Cond := k2_sels lw_privs ++ tables_1
theorem lw_privs_ok : ∀ q ∈ lw_privs, lw_okq q := by
  show ∀ q ∈ lw_privs_1 ++ (lw_privs_2 ++ (lw_privs_3 ++ (lw_privs_4))), lw_okq q
  exact List.forall_mem_append.mpr ⟨lw_r1, List.forall_mem_append.mpr ⟨lw_r2, List.forall_mem_append.mpr ⟨lw_r3, lw_r4⟩⟩⟩
def RX0 : String := "MindReaders$Code"
def TX0 : u_T := fun k => match k with
  | 0 => ("MindReaders$Code", "spoken", "LMindReaders$Rows;", true)
  | 1 => ("MindReaders$Code", "plain", "LMindReaders$Rows;", true)
  | _ => ("MindReaders$Code", "size", "I", false)
def tyX0 : Nat → FieldType := fun k => match k with
  | 0 => .object "MindReaders$Rows"
  | 1 => .object "MindReaders$Rows"
  | _ => .int
abbrev wsX00 : List Cond := u_ws RX0 TX0 3
theorem nmX0 : ∀ a, a < 3 → ∀ b, b < 3 → a ≠ b → (TX0 a).2.1 ≠ (TX0 b).2.1 := by decide +kernel
theorem tyX0_ok : ∀ k, k < 3 → parseFieldDescriptor (TX0 k).2.2.1 = some (tyX0 k) := by decide +kernel
def RX1 : String := "MindReaders$Notes"
def TX1 : u_T := fun k => match k with
  | 0 => ("MindReaders$Notes", "things", "LMindReaders$Row;", true)
  | _ => ("MindReaders$Notes", "rows", "LMindReaders$Rows;", true)
def tyX1 : Nat → FieldType := fun k => match k with
  | 0 => .object "MindReaders$Row"
  | _ => .object "MindReaders$Rows"
abbrev wsX10 : List Cond := u_ws RX1 TX1 2
theorem nmX1 : ∀ a, a < 2 → ∀ b, b < 2 → a ≠ b → (TX1 a).2.1 ≠ (TX1 b).2.1 := by decide +kernel
theorem tyX1_ok : ∀ k, k < 2 → parseFieldDescriptor (TX1 k).2.2.1 = some (tyX1 k) := by decide +kernel
def RX2 : String := "MindReaders$Readings"
def TX2 : u_T := fun k => match k with
  | 0 => ("MindReaders$Readings", "lengths", "LMindReaders$Row;", true)
  | _ => ("MindReaders$Readings", "best", "I", false)
def tyX2 : Nat → FieldType := fun k => match k with
  | 0 => .object "MindReaders$Row"
  | _ => .int
abbrev wsX20 : List Cond := u_ws RX2 TX2 2
theorem nmX2 : ∀ a, a < 2 → ∀ b, b < 2 → a ≠ b → (TX2 a).2.1 ≠ (TX2 b).2.1 := by decide +kernel
theorem tyX2_ok : ∀ k, k < 2 → parseFieldDescriptor (TX2 k).2.2.1 = some (tyX2 k) := by decide +kernel
def RX3 : String := "MindReaders$Row"
def TX3 : u_T := fun k => match k with
  | 0 => ("MindReaders$Row", "cells", "[I", true)
  | _ => ("MindReaders$Row", "size", "I", false)
def tyX3 : Nat → FieldType := fun k => match k with
  | 0 => .array .int
  | _ => .int
abbrev wsX30 : List Cond := u_ws RX3 TX3 2
theorem nmX3 : ∀ a, a < 2 → ∀ b, b < 2 → a ≠ b → (TX3 a).2.1 ≠ (TX3 b).2.1 := by decide +kernel
theorem tyX3_ok : ∀ k, k < 2 → parseFieldDescriptor (TX3 k).2.2.1 = some (tyX3 k) := by decide +kernel
def RX4 : String := "MindReaders$Rows"
def TX4 : u_T := fun k => match k with
  | 0 => ("MindReaders$Rows", "rows", "[LMindReaders$Row;", true)
  | _ => ("MindReaders$Rows", "nothing", "LMindReaders$Row;", true)
def tyX4 : Nat → FieldType := fun k => match k with
  | 0 => .array (.object "MindReaders$Row")
  | _ => .object "MindReaders$Row"
abbrev wsX40 : List Cond := u_ws RX4 TX4 2
theorem nmX4 : ∀ a, a < 2 → ∀ b, b < 2 → a ≠ b → (TX4 a).2.1 ≠ (TX4 b).2.1 := by decide +kernel
theorem tyX4_ok : ∀ k, k < 2 → parseFieldDescriptor (TX4 k).2.2.1 = some (tyX4 k) := by decide +kernel
def RX5 : String := "MindReaders$Signals"
def TX5 : u_T := fun k => match k with
  | 0 => ("MindReaders$Signals", "kinds", "LMindReaders$Row;", true)
  | 1 => ("MindReaders$Signals", "tones", "LMindReaders$Row;", true)
  | 2 => ("MindReaders$Signals", "seconds", "LMindReaders$Row;", true)
  | _ => ("MindReaders$Signals", "odds", "LMindReaders$Row;", true)
def tyX5 : Nat → FieldType := fun k => match k with
  | 0 => .object "MindReaders$Row"
  | 1 => .object "MindReaders$Row"
  | 2 => .object "MindReaders$Row"
  | _ => .object "MindReaders$Row"
abbrev wsX50 : List Cond := u_ws RX5 TX5 4
theorem nmX5 : ∀ a, a < 4 → ∀ b, b < 4 → a ≠ b → (TX5 a).2.1 ≠ (TX5 b).2.1 := by decide +kernel
theorem tyX5_ok : ∀ k, k < 4 → parseFieldDescriptor (TX5 k).2.2.1 = some (tyX5 k) := by decide +kernel
def RX6 : String := "MindReaders"
def TX6 : u_T := fun k => match k with
  | 0 => ("MindReaders", "signals", "LMindReaders$Signals;", true)
  | 1 => ("MindReaders", "weights", "LMindReaders$Row;", true)
  | 2 => ("MindReaders", "codes", "[LMindReaders$Code;", true)
  | 3 => ("MindReaders", "codesRead", "I", false)
  | 4 => ("MindReaders", "page", "LMindReaders$Row;", true)
  | 5 => ("MindReaders", "notes", "LMindReaders$Notes;", true)
  | 6 => ("MindReaders", "keptWeights", "LMindReaders$Row;", true)
  | 7 => ("MindReaders", "keptNotes", "LMindReaders$Notes;", true)
  | 8 => ("MindReaders", "kept", "Z", false)
  | 9 => ("MindReaders", "said", "LMindReaders$Row;", true)
  | 10 => ("MindReaders", "heard", "LMindReaders$Row;", true)
  | 11 => ("MindReaders", "pool", "LMindReaders$Row;", true)
  | 12 => ("MindReaders", "struck", "LMindReaders$Rows;", true)
  | _ => ("MindReaders", "readings", "LMindReaders$Readings;", true)
def tyX6 : Nat → FieldType := fun k => match k with
  | 0 => .object "MindReaders$Signals"
  | 1 => .object "MindReaders$Row"
  | 2 => .array (.object "MindReaders$Code")
  | 3 => .int
  | 4 => .object "MindReaders$Row"
  | 5 => .object "MindReaders$Notes"
  | 6 => .object "MindReaders$Row"
  | 7 => .object "MindReaders$Notes"
  | 8 => .boolean
  | 9 => .object "MindReaders$Row"
  | 10 => .object "MindReaders$Row"
  | 11 => .object "MindReaders$Row"
  | 12 => .object "MindReaders$Rows"
  | _ => .object "MindReaders$Readings"
abbrev wsX60 : List Cond := u_ws RX6 TX6 14
theorem nmX6 : ∀ a, a < 14 → ∀ b, b < 14 → a ≠ b → (TX6 a).2.1 ≠ (TX6 b).2.1 := by decide +kernel
theorem tyX6_ok : ∀ k, k < 14 → parseFieldDescriptor (TX6 k).2.2.1 = some (tyX6 k) := by decide +kernel
def RX7 : String := "MindReadersModel"
def TX7 : u_T := fun k => match k with
  | 0 => ("MindReadersModel", "page", "[I", true)
  | 1 => ("MindReadersModel", "pageMany", "I", false)
  | 2 => ("MindReadersModel", "readMany", "I", false)
  | 3 => ("MindReadersModel", "readLetters", "I", false)
  | 4 => ("MindReadersModel", "readRows", "[I", true)
  | 5 => ("MindReadersModel", "codes", "I", false)
  | 6 => ("MindReadersModel", "speeches", "[I", true)
  | 7 => ("MindReadersModel", "rows", "[I", true)
  | 8 => ("MindReadersModel", "signals", "I", false)
  | 9 => ("MindReadersModel", "signalRows", "[I", true)
  | 10 => ("MindReadersModel", "things", "I", false)
  | 11 => ("MindReadersModel", "weights", "[I", true)
  | 12 => ("MindReadersModel", "plain", "[I", true)
  | 13 => ("MindReadersModel", "plainMany", "I", false)
  | 14 => ("MindReadersModel", "plains", "[I", true)
  | 15 => ("MindReadersModel", "ahead", "[I", true)
  | 16 => ("MindReadersModel", "least", "I", false)
  | 17 => ("MindReadersModel", "heap", "[I", true)
  | 18 => ("MindReadersModel", "notes", "I", false)
  | 19 => ("MindReadersModel", "noteRows", "[I", true)
  | 20 => ("MindReadersModel", "ways", "[J", true)
  | 21 => ("MindReadersModel", "before", "[J", true)
  | 22 => ("MindReadersModel", "keptThings", "I", false)
  | 23 => ("MindReadersModel", "keptNotes", "I", false)
  | 24 => ("MindReadersModel", "keptWeights", "[I", true)
  | 25 => ("MindReadersModel", "keptRows", "[I", true)
  | _ => ("MindReadersModel", "hash", "J", false)
def tyX7 : Nat → FieldType := fun k => match k with
  | 0 => .array .int
  | 1 => .int
  | 2 => .int
  | 3 => .int
  | 4 => .array .int
  | 5 => .int
  | 6 => .array .int
  | 7 => .array .int
  | 8 => .int
  | 9 => .array .int
  | 10 => .int
  | 11 => .array .int
  | 12 => .array .int
  | 13 => .int
  | 14 => .array .int
  | 15 => .array .int
  | 16 => .int
  | 17 => .array .int
  | 18 => .int
  | 19 => .array .int
  | 20 => .array .long
  | 21 => .array .long
  | 22 => .int
  | 23 => .int
  | 24 => .array .int
  | 25 => .array .int
  | _ => .long
abbrev wsX70 : List Cond := u_ws RX7 TX7 27
theorem nmX7 : ∀ a, a < 27 → ∀ b, b < 27 → a ≠ b → (TX7 a).2.1 ≠ (TX7 b).2.1 := by decide +kernel
theorem tyX7_ok : ∀ k, k < 27 → parseFieldDescriptor (TX7 k).2.2.1 = some (tyX7 k) := by decide +kernel
def RJ6 : String := "java/lang/Integer"
def RJ9 : String := "java/lang/Math"
def RL : String := "MindReadersLaw"
end
section
/-! ===== a pure reading of the bytecode: values are whole numbers or places; a machine int is a number modulo 2^32 ===== -/
abbrev zV : Type := Int ⊕ (Int ⊕ Option Nat)
abbrev zH : Type := List (Nat × List zV)
abbrev zL : Type := List (Option zV)
abbrev zR : Type := Option zV × zH
abbrev zE : Type := Instr × List Nat × Int
/-- the number that a machine int, long stands for -/
def zw (x : Int) : Int := (x + 2147483648) % 4294967296 - 2147483648
def zwl (x : Int) : Int := (x + 9223372036854775808) % 18446744073709551616 - 9223372036854775808
/-- machine operations on bits -/
def zand (a b : Int) : Int := (Int32.ofInt a &&& Int32.ofInt b).toInt
def zor (a b : Int) : Int := (Int32.ofInt a ||| Int32.ofInt b).toInt
def zshl (a b : Int) : Int := (Int32.ofInt a <<< (Int32.ofInt b &&& 31)).toInt
def zshr (a b : Int) : Int := (Int32.ofInt a >>> (Int32.ofInt b &&& 31)).toInt
def zushr (a b : Int) : Int := ((Int32.ofInt a).toUInt32 >>> ((Int32.ofInt b).toUInt32 &&& Int32.toUInt32 31)).toInt32.toInt
def zandl (a b : Int) : Int := (Int64.ofInt a &&& Int64.ofInt b).toInt
def zorl (a b : Int) : Int := (Int64.ofInt a ||| Int64.ofInt b).toInt
def zshll (a b : Int) : Int := (Int64.ofInt a <<< ((Int32.ofInt b).toInt64 &&& 63)).toInt
def zushrl (a b : Int) : Int := ((Int64.ofInt a).toUInt64 >>> ((Int32.ofInt b).toInt64.toUInt64 &&& Int64.toUInt64 63)).toInt64.toInt
/-- reading and writing cells: place 0 is the script, place q + 1 the heap's cell q; a tag below 100 is a class, 100 int[], 101 long[], above: references -/
def zfd (h : zH) (r : Option Nat) (ci k : Nat) : Option zV := match r with
  | some (p + 1) => match h[p]? with
    | some c => if c.1 = ci then c.2[k]? else none
    | none => none
  | _ => none
def zgi (h : zH) (r : Option Nat) (ci k : Nat) (f : Int → Option zR) : Option zR := match zfd h r ci k with
  | some (.inl v) => f v
  | _ => none
def zgl (h : zH) (r : Option Nat) (ci k : Nat) (f : Int → Option zR) : Option zR := match zfd h r ci k with
  | some (.inr (.inl v)) => f v
  | _ => none
def zgr (h : zH) (r : Option Nat) (ci k : Nat) (f : Option Nat → Option zR) : Option zR := match zfd h r ci k with
  | some (.inr (.inr v)) => f v
  | _ => none
def zput (h : zH) (p k : Nat) (v : zV) : zH := match h[p]? with
  | some c => h.set p (c.1, c.2.set k v)
  | none => h
def zpf (h : zH) (r : Option Nat) (ci k : Nat) (v : zV) (f : zH → Option zR) : Option zR := match r with
  | some (p + 1) => match h[p]? with
    | some c => if c.1 = ci ∧ k < c.2.length then f (h.set p (c.1, c.2.set k v)) else none
    | none => none
  | _ => none
def zar (xs : List Int) (h : zH) (r : Option Nat) (tag : Nat) (i : Int) : Option zV := match r with
  | some 0 => if tag = 100 ∧ 0 ≤ zw i then (xs[(zw i).toNat]?).map .inl else none
  | some (p + 1) => match h[p]? with
    | some c => if c.1 = tag ∧ 0 ≤ zw i then c.2[(zw i).toNat]? else none
    | none => none
  | none => none
def zai (xs : List Int) (h : zH) (r : Option Nat) (i : Int) (f : Int → Option zR) : Option zR := match zar xs h r 100 i with
  | some (.inl v) => f v
  | _ => none
def zal (xs : List Int) (h : zH) (r : Option Nat) (i : Int) (f : Int → Option zR) : Option zR := match zar xs h r 101 i with
  | some (.inr (.inl v)) => f v
  | _ => none
def zaa (xs : List Int) (h : zH) (r : Option Nat) (tag : Nat) (i : Int) (f : Option Nat → Option zR) : Option zR := match zar xs h r tag i with
  | some (.inr (.inr v)) => f v
  | _ => none
def zst (h : zH) (r : Option Nat) (tag : Nat) (i : Int) (v : zV) (f : zH → Option zR) : Option zR := match r with
  | some (p + 1) => match h[p]? with
    | some c => if c.1 = tag ∧ 0 ≤ zw i ∧ (zw i).toNat < c.2.length then f (h.set p (c.1, c.2.set (zw i).toNat v)) else none
    | none => none
  | _ => none
def zln (xs : List Int) (h : zH) (r : Option Nat) (f : Int → Option zR) : Option zR := match r with
  | some 0 => f xs.length
  | some (p + 1) => match h[p]? with
    | some c => if 100 ≤ c.1 then f c.2.length else none
    | none => none
  | none => none
def zro (r : Option Nat) (f : Nat → Option zR) : Option zR := match r with
  | some p => f p
  | none => none
def zif (r : Option Nat) (a : Option zR) (b : Option zR) : Option zR := match r with
  | none => a
  | some _ => b
def zci (o : Option zR) (f : Int → zH → Option zR) : Option zR := match o with
  | some (some (.inl v), h) => f v h
  | _ => none
def zcl (o : Option zR) (f : Int → zH → Option zR) : Option zR := match o with
  | some (some (.inr (.inl v)), h) => f v h
  | _ => none
def zcr (o : Option zR) (f : Option Nat → zH → Option zR) : Option zR := match o with
  | some (some (.inr (.inr v)), h) => f v h
  | _ => none
def zcv (o : Option zR) (f : zH → Option zR) : Option zR := match o with
  | some (none, h) => f h
  | _ => none
/-- the locals -/
def zcat (v : zV) : Nat := match v with
  | .inr (.inl _) => 2
  | _ => 1
def zargs : List zV → zL
  | [] => []
  | .inr (.inl x) :: t => some (.inr (.inl x)) :: none :: zargs t
  | .inl x :: t => some (.inl x) :: zargs t
  | .inr (.inr x) :: t => some (.inr (.inr x)) :: zargs t
def zkeep : List Nat → zL → zL
  | [], _ => []
  | _ :: _, [] => []
  | 0 :: m, _ :: t => none :: zkeep m t
  | (_ + 1) :: m, v :: t => v :: zkeep m t
/-- L with place i set; a long that stood one place before is lost -/
def zset1 : zL → Nat → Option zV → zL
  | [], 0, v => [v]
  | [], i + 1, v => none :: zset1 [] i v
  | _ :: t, 0, v => v :: t
  | some (.inr (.inl _)) :: t, 1, v => none :: zset1 t 0 v
  | a :: t, i + 1, v => a :: zset1 t i v
def zset2 : zL → Nat → Option zV → zL
  | [], 0, v => [v, none]
  | [], i + 1, v => none :: zset2 [] i v
  | [_], 0, v => [v, none]
  | _ :: _ :: t, 0, v => v :: none :: t
  | some (.inr (.inl _)) :: t, 1, v => none :: zset2 t 0 v
  | a :: t, i + 1, v => a :: zset2 t i v
def zld (L : zL) (i : Nat) : Option zV := match L[i]? with
  | some (some v) => some v
  | _ => none
/-- one instruction that neither jumps nor calls: what it leaves goes to k -/
def zS (xs : List Int) (I : Instr) (x : List Nat) (c : Int) (L : zL) (st : List zV) (h : zH) (k : zL → List zV → zH → Option zR) : Option zR := match I with
  | .iconst n => k L (.inl n :: st) h
  | .bipush n => k L (.inl n :: st) h
  | .sipush n => k L (.inl n :: st) h
  | .ldc _ => k L (.inl c :: st) h
  | .ldc_w _ => k L (.inl c :: st) h
  | .lconst n => k L (.inr (.inl ((n : Nat) : Int)) :: st) h
  | .ldc2_w _ => k L (.inr (.inl c) :: st) h
  | .aconst_null => k L (.inr (.inr none) :: st) h
  | .iload i => match zld L i with | some (.inl v) => k L (.inl v :: st) h | _ => none
  | .iload_n i => match zld L i with | some (.inl v) => k L (.inl v :: st) h | _ => none
  | .lload i => match zld L i with | some (.inr (.inl v)) => k L (.inr (.inl v) :: st) h | _ => none
  | .lload_n i => match zld L i with | some (.inr (.inl v)) => k L (.inr (.inl v) :: st) h | _ => none
  | .aload i => match zld L i with | some (.inr (.inr v)) => k L (.inr (.inr v) :: st) h | _ => none
  | .aload_n i => match zld L i with | some (.inr (.inr v)) => k L (.inr (.inr v) :: st) h | _ => none
  | .istore i => match st with | .inl v :: st => k (zset1 L i (some (.inl v))) st h | _ => none
  | .istore_n i => match st with | .inl v :: st => k (zset1 L i (some (.inl v))) st h | _ => none
  | .lstore i => match st with | .inr (.inl v) :: st => k (zset2 L i (some (.inr (.inl v)))) st h | _ => none
  | .lstore_n i => match st with | .inr (.inl v) :: st => k (zset2 L i (some (.inr (.inl v)))) st h | _ => none
  | .astore i => match st with | .inr (.inr v) :: st => k (zset1 L i (some (.inr (.inr v)))) st h | _ => none
  | .astore_n i => match st with | .inr (.inr v) :: st => k (zset1 L i (some (.inr (.inr v)))) st h | _ => none
  | .iinc i n => match zld L i with | some (.inl v) => k (zset1 L i (some (.inl (v + n)))) st h | _ => none
  | .iadd => match st with | .inl b :: .inl a :: st => k L (.inl (a + b) :: st) h | _ => none
  | .isub => match st with | .inl b :: .inl a :: st => k L (.inl (a - b) :: st) h | _ => none
  | .imul => match st with | .inl b :: .inl a :: st => k L (.inl (a * b) :: st) h | _ => none
  | .ineg => match st with | .inl a :: st => k L (.inl (-a) :: st) h | _ => none
  | .idiv => match st with | .inl b :: .inl a :: st => if zw b = 0 then none else k L (.inl ((zw a).tdiv (zw b)) :: st) h | _ => none
  | .irem => match st with | .inl b :: .inl a :: st => if zw b = 0 then none else k L (.inl ((zw a).tmod (zw b)) :: st) h | _ => none
  | .iand => match st with | .inl b :: .inl a :: st => k L (.inl (zand a b) :: st) h | _ => none
  | .ior => match st with | .inl b :: .inl a :: st => k L (.inl (zor a b) :: st) h | _ => none
  | .ishl => match st with | .inl b :: .inl a :: st => k L (.inl (zshl a b) :: st) h | _ => none
  | .ishr => match st with | .inl b :: .inl a :: st => k L (.inl (zshr a b) :: st) h | _ => none
  | .iushr => match st with | .inl b :: .inl a :: st => k L (.inl (zushr a b) :: st) h | _ => none
  | .i2l => match st with | .inl a :: st => k L (.inr (.inl (zw a)) :: st) h | _ => none
  | .l2i => match st with | .inr (.inl a) :: st => k L (.inl a :: st) h | _ => none
  | .ladd => match st with | .inr (.inl b) :: .inr (.inl a) :: st => k L (.inr (.inl (a + b)) :: st) h | _ => none
  | .lsub => match st with | .inr (.inl b) :: .inr (.inl a) :: st => k L (.inr (.inl (a - b)) :: st) h | _ => none
  | .lmul => match st with | .inr (.inl b) :: .inr (.inl a) :: st => k L (.inr (.inl (a * b)) :: st) h | _ => none
  | .lneg => match st with | .inr (.inl a) :: st => k L (.inr (.inl (-a)) :: st) h | _ => none
  | .ldiv => match st with | .inr (.inl b) :: .inr (.inl a) :: st => if zwl b = 0 then none else k L (.inr (.inl ((zwl a).tdiv (zwl b))) :: st) h | _ => none
  | .lrem => match st with | .inr (.inl b) :: .inr (.inl a) :: st => if zwl b = 0 then none else k L (.inr (.inl ((zwl a).tmod (zwl b))) :: st) h | _ => none
  | .land => match st with | .inr (.inl b) :: .inr (.inl a) :: st => k L (.inr (.inl (zandl a b)) :: st) h | _ => none
  | .lor => match st with | .inr (.inl b) :: .inr (.inl a) :: st => k L (.inr (.inl (zorl a b)) :: st) h | _ => none
  | .lshl => match st with | .inl b :: .inr (.inl a) :: st => k L (.inr (.inl (zshll a b)) :: st) h | _ => none
  | .lushr => match st with | .inl b :: .inr (.inl a) :: st => k L (.inr (.inl (zushrl a b)) :: st) h | _ => none
  | .lcmp => match st with | .inr (.inl b) :: .inr (.inl a) :: st => k L (.inl (if zwl a < zwl b then -1 else if zwl a = zwl b then 0 else 1) :: st) h | _ => none
  | .dup => match st with | .inl a :: st => k L (.inl a :: .inl a :: st) h | .inr (.inr a) :: st => k L (.inr (.inr a) :: .inr (.inr a) :: st) h | _ => none
  | .dup2 => match st with | .inl b :: .inr (.inr a) :: st => k L (.inl b :: .inr (.inr a) :: .inl b :: .inr (.inr a) :: st) h | _ => none
  | .pop => match st with | .inl _ :: st => k L st h | .inr (.inr _) :: st => k L st h | _ => none
  | .getfield _ => match x, st with
    | [ci, j, 0], .inr (.inr r) :: st => zgi h r ci j fun v => k L (.inl v :: st) h
    | [ci, j, 1], .inr (.inr r) :: st => zgl h r ci j fun v => k L (.inr (.inl v) :: st) h
    | [ci, j, 2], .inr (.inr r) :: st => zgr h r ci j fun v => k L (.inr (.inr v) :: st) h
    | _, _ => none
  | .putfield _ => match x, st with
    | [ci, j, 0], .inl v :: .inr (.inr r) :: st => zpf h r ci j (.inl v) fun h => k L st h
    | [ci, j, 1], .inr (.inl v) :: .inr (.inr r) :: st => zpf h r ci j (.inr (.inl v)) fun h => k L st h
    | [ci, j, 2], .inr (.inr v) :: .inr (.inr r) :: st => zpf h r ci j (.inr (.inr v)) fun h => k L st h
    | [ci, j, 3], .inl v :: .inr (.inr r) :: st => if v = 0 ∨ v = 1 then zpf h r ci j (.inl v) fun h => k L st h else none
    | _, _ => none
  | .iaload => match st with | .inl i :: .inr (.inr r) :: st => zai xs h r i fun v => k L (.inl v :: st) h | _ => none
  | .laload => match st with | .inl i :: .inr (.inr r) :: st => zal xs h r i fun v => k L (.inr (.inl v) :: st) h | _ => none
  | .aaload => match x, st with | [tag], .inl i :: .inr (.inr r) :: st => zaa xs h r tag i fun v => k L (.inr (.inr v) :: st) h | _, _ => none
  | .iastore => match st with | .inl v :: .inl i :: .inr (.inr r) :: st => zst h r 100 i (.inl v) fun h => k L st h | _ => none
  | .lastore => match st with | .inr (.inl v) :: .inl i :: .inr (.inr r) :: st => zst h r 101 i (.inr (.inl v)) fun h => k L st h | _ => none
  | .aastore => match x, st with | [tag, ci], .inr (.inr (some v)) :: .inl i :: .inr (.inr r) :: st => (match v with | 0 => none | q + 1 => match h[q]? with | some c => if c.1 = ci then zst h r tag i (.inr (.inr (some (q + 1)))) fun h => k L st h else none | none => none) | _, _ => none
  | .arraylength => match st with | .inr (.inr r) :: st => zln xs h r fun v => k L (.inl v :: st) h | _ => none
  | .new _ => match x with
    | ci :: tys => k L (.inr (.inr (some (h.length + 1))) :: st) (h ++ [(ci, tys.map fun t => match t with | 0 => .inl 0 | 1 => .inr (.inl 0) | _ => .inr (.inr none))])
    | _ => none
  | .newarray _ => match x, st with
    | [0], .inl n :: st => if 0 ≤ zw n ∧ zw n ≤ 1000000 then k L (.inr (.inr (some (h.length + 1))) :: st) (h ++ [(100, List.replicate (zw n).toNat (.inl 0))]) else none
    | [1], .inl n :: st => if 0 ≤ zw n ∧ zw n ≤ 1000000 then k L (.inr (.inr (some (h.length + 1))) :: st) (h ++ [(101, List.replicate (zw n).toNat (.inr (.inl 0)))]) else none
    | _, _ => none
  | .anewarray _ => match x, st with
    | [tag], .inl n :: st => if 0 ≤ zw n ∧ zw n ≤ 1000000 then k L (.inr (.inr (some (h.length + 1))) :: st) (h ++ [(tag, List.replicate (zw n).toNat (.inr (.inr none)))]) else none
    | _, _ => none
  | _ => none
def zsel (o : Option Nat) (f : Nat → Option zR) : Option zR := match o with
  | some t => f t
  | none => none
/-- a jump: the locals that live on -/
def zJ (rec : Nat → zL → List zV → zH → Option zR) (x : List Nat) (L : zL) (st : List zV) (h : zH) : Option zR := match x with
  | t :: m => rec t (zkeep m L) st h
  | [] => none
def zY (t : Nat) (o : Option zR) (L : zL) (st : List zV) (k : zL → List zV → zH → Option zR) : Option zR := match t with
  | 0 => zcv o fun h => k L st h
  | 1 => zci o fun v h => k L (.inl v :: st) h
  | 2 => zcl o fun v h => k L (.inr (.inl v) :: st) h
  | 3 => zcr o fun v h => k L (.inr (.inr v) :: st) h
  | _ => none
def zrcv (l : List zV) : Option Nat := match l with
  | .inr (.inr r) :: _ => r
  | _ => none
/-- the receiver is an object of that class -/
def zck (h : zH) (r : Option Nat) (ci : Nat) (o : Option zR) : Option zR := match r with
  | some (p + 1) => match h[p]? with
    | some c => if c.1 = ci then o else none
    | none => none
  | _ => none
def zX (rec : Nat → Nat → zL → List zV → zH → Option zR) (x : List Nat) (L : zL) (st : List zV) (h : zH) (k : zL → List zV → zH → Option zR) : Option zR := match x with
  | [m, n, t, mx] => if n ≤ st.length ∧ st.length ≤ n + 4 ∧ (zargs (st.take n).reverse).length ≤ mx then zY t (rec m 0 (zargs (st.take n).reverse) [] h) L (st.drop n) k else none
  | [m, n, t, mx, ci] => if n ≤ st.length ∧ st.length ≤ n + 4 ∧ (zargs (st.take n).reverse).length ≤ mx then zck h (zrcv (st.take n).reverse) ci (zY t (rec m 0 (zargs (st.take n).reverse) [] h) L (st.drop n) k) else none
  | _ => none
/-- one instruction -/
def zI (xs : List Int) (rec : Nat → Nat → zL → List zV → zH → Option zR) (m : Nat) (I : Instr) (x : List Nat) (c : Int) (L : zL) (st : List zV) (h : zH) (k : zL → List zV → zH → Option zR) : Option zR := match I with
  | .nop => zJ (rec m) x L st h
  | .goto _ => zJ (rec m) x L st h
  | .ifCond .eq _ => match st with | .inl a :: st => if zw a = 0 then zJ (rec m) x L st h else k L st h | _ => none
  | .ifCond .ne _ => match st with | .inl a :: st => if zw a ≠ 0 then zJ (rec m) x L st h else k L st h | _ => none
  | .ifCond .lt _ => match st with | .inl a :: st => if zw a < 0 then zJ (rec m) x L st h else k L st h | _ => none
  | .ifCond .ge _ => match st with | .inl a :: st => if 0 ≤ zw a then zJ (rec m) x L st h else k L st h | _ => none
  | .ifCond .gt _ => match st with | .inl a :: st => if 0 < zw a then zJ (rec m) x L st h else k L st h | _ => none
  | .ifCond .le _ => match st with | .inl a :: st => if zw a ≤ 0 then zJ (rec m) x L st h else k L st h | _ => none
  | .if_icmp .eq _ => match st with | .inl b :: .inl a :: st => if zw a = zw b then zJ (rec m) x L st h else k L st h | _ => none
  | .if_icmp .ne _ => match st with | .inl b :: .inl a :: st => if zw a ≠ zw b then zJ (rec m) x L st h else k L st h | _ => none
  | .if_icmp .lt _ => match st with | .inl b :: .inl a :: st => if zw a < zw b then zJ (rec m) x L st h else k L st h | _ => none
  | .if_icmp .ge _ => match st with | .inl b :: .inl a :: st => if zw b ≤ zw a then zJ (rec m) x L st h else k L st h | _ => none
  | .if_icmp .gt _ => match st with | .inl b :: .inl a :: st => if zw b < zw a then zJ (rec m) x L st h else k L st h | _ => none
  | .if_icmp .le _ => match st with | .inl b :: .inl a :: st => if zw a ≤ zw b then zJ (rec m) x L st h else k L st h | _ => none
  | .ifnull _ => match st with | .inr (.inr r) :: st => zif r (zJ (rec m) x L st h) (k L st h) | _ => none
  | .ifnonnull _ => match st with | .inr (.inr r) :: st => zif r (k L st h) (zJ (rec m) x L st h) | _ => none
  | .tableswitch _ lo hi _ => match x, st with
    | n :: d :: x, .inl a :: st => if zw a < lo ∨ hi < zw a then rec m d (zkeep (x.take n) L) st h else zsel ((x.drop n)[(zw a - lo).toNat]?) fun t => rec m t (zkeep (x.take n) L) st h
    | _, _ => none
  | .ireturn => match x, st with
    | [0], [.inl a] => some (some (.inl a), h)
    | [1], [.inl a] => if a = 0 ∨ a = 1 then some (some (.inl a), h) else none
    | _, _ => none
  | .lreturn => match st with | [.inr (.inl a)] => some (some (.inr (.inl a)), h) | _ => none
  | .areturn => match st with | [.inr (.inr a)] => some (some (.inr (.inr a)), h) | _ => none
  | .return_ => match st with | [] => some (none, h) | _ => none
  | .invokevirtual _ => zX rec x L st h k
  | .invokestatic _ => match x with
    | [0] => match st with | .inl b :: .inl a :: st => if st.length ≤ 4 then k L (.inl (if zw a < zw b then b else a) :: st) h else none | _ => none
    | [1] => match st with | .inl b :: .inl a :: st => if st.length ≤ 4 then k L (.inl (if zw b < zw a then b else a) :: st) h else none | _ => none
    | x => zX rec x L st h k
  | .invokespecial _ => match x with
    | [] => match st with | [.inr (.inr (some _))] => k L [] h | _ => none
    | x => zX rec x L st h k
  | I => zS xs I x c L st h k
def zB (xs : List Int) (rec : Nat → Nat → zL → List zV → zH → Option zR) (m : Nat) : List zE → zL → List zV → zH → Option zR
  | [], _, _, _ => none
  | (I, x, c) :: t, L, st, h => zI xs rec m I x c L st h (zB xs rec m t)
end
section
/-! ===== what a reading comes to, with no bound on its steps ===== -/
def zrun (B : Nat → Nat → Option (List zE)) (xs : List Int) : Nat → Nat → Nat → zL → List zV → zH → Option zR
  | 0, _, _, _, _, _ => none
  | n + 1, m, pc, L, st, h => match B m pc with
    | some b => zB xs (zrun B xs n) m b L st h
    | none => none
noncomputable def zx (B : Nat → Nat → Option (List zE)) (xs : List Int) (m pc : Nat) (L : zL) (st : List zV) (h : zH) : Option zR :=
  @dite _ (∃ r n, zrun B xs n m pc L st h = some r) (Classical.propDecidable _) (fun q => some (Classical.choose q)) (fun _ => none)
/-- the heap grows -/
def zsz : zH → Nat
  | [] => 0
  | c :: t => c.2.length + zsz t
def zge (h h' : zH) : Prop := h.length ≤ h'.length ∧ zsz h ≤ zsz h'
theorem zge_rf (h : zH) : zge h h := ⟨Nat.le_refl _, Nat.le_refl _⟩
theorem zge_tr {a b c : zH} (h1 : zge a b) (h2 : zge b c) : zge a c := ⟨Nat.le_trans h1.1 h2.1, Nat.le_trans h1.2 h2.2⟩
theorem zsz_app (a b : zH) : zsz (a ++ b) = zsz a + zsz b := by
  induction a with
  | nil => simp [zsz]
  | cons c t ih => simp [zsz, ih]; omega
theorem zsz_set : ∀ (h : zH) (p : Nat) (c c' : Nat × List zV), h[p]? = some c → c'.2.length = c.2.length → zsz (h.set p c') = zsz h
  | [], p, c, c', q, _ => by simp at q
  | d :: t, 0, c, c', q, e => by
    simp at q
    subst q
    simp [zsz, e]
  | d :: t, p + 1, c, c', q, e => by
    simp at q
    simp [zsz, zsz_set t p c c' q e]
theorem zge_set {h : zH} {p : Nat} {c c' : Nat × List zV} (q : h[p]? = some c) (e : c'.2.length = c.2.length) : zge h (h.set p c') := ⟨by simp, Nat.le_of_eq (zsz_set h p c c' q e).symm⟩
theorem zge_app (h : zH) (c : Nat × List zV) : zge h (h ++ [c]) := ⟨by simp, by rw [zsz_app]; omega⟩
/-- a step that passes on at most one state, whatever it is passed to -/
def zlin (h0 : zH) (F : (zL → List zV → zH → Option zR) → Option zR) : Prop := (∀ k, F k = none) ∨ ∃ L' st' h', zge h0 h' ∧ ∀ k, F k = k L' st' h'
theorem zlin_none {h0 : zH} : zlin h0 (fun _ => none) := Or.inl fun _ => rfl
theorem zlin_k (L : zL) (st : List zV) (h : zH) : zlin h (fun k => k L st h) := Or.inr ⟨L, st, h, zge_rf h, fun _ => rfl⟩
theorem zlin_kg {h0 : zH} (L : zL) (st : List zV) (h : zH) (hg : zge h0 h) : zlin h0 (fun k => k L st h) := Or.inr ⟨L, st, h, hg, fun _ => rfl⟩
theorem zlin_if {h0 : zH} {c : Prop} [Decidable c] {F G : (zL → List zV → zH → Option zR) → Option zR} (hF : zlin h0 F) (hG : zlin h0 G) : zlin h0 (fun k => if c then F k else G k) := by
  by_cases hc : c
  · simp only [hc, if_true]; exact hF
  · simp only [hc, if_false]; exact hG
theorem zlin_gi (h : zH) (r : Option Nat) (ci j : Nat) (f : (zL → List zV → zH → Option zR) → Int → Option zR) (hf : ∀ v, zlin h (fun k => f k v)) : zlin h (fun k => zgi h r ci j (f k)) := by
  unfold zgi; rcases zfd h r ci j with _ | v | v | v <;> first | exact zlin_none | exact hf v
theorem zlin_gl (h : zH) (r : Option Nat) (ci j : Nat) (f : (zL → List zV → zH → Option zR) → Int → Option zR) (hf : ∀ v, zlin h (fun k => f k v)) : zlin h (fun k => zgl h r ci j (f k)) := by
  unfold zgl; rcases zfd h r ci j with _ | v | v | v <;> first | exact zlin_none | exact hf v
theorem zlin_gr (h : zH) (r : Option Nat) (ci j : Nat) (f : (zL → List zV → zH → Option zR) → Option Nat → Option zR) (hf : ∀ v, zlin h (fun k => f k v)) : zlin h (fun k => zgr h r ci j (f k)) := by
  unfold zgr; rcases zfd h r ci j with _ | v | v | v <;> first | exact zlin_none | exact hf v
theorem zlin_pf (h : zH) (r : Option Nat) (ci j : Nat) (v : zV) (f : (zL → List zV → zH → Option zR) → zH → Option zR) (hf : ∀ v, zge h v → zlin h (fun k => f k v)) : zlin h (fun k => zpf h r ci j v (f k)) := by
  unfold zpf
  rcases r with _ | _ | p
  · exact zlin_none
  · exact zlin_none
  · dsimp only
    cases hc : h[p]? with
    | none => exact zlin_none
    | some c => exact zlin_if (hf _ (zge_set hc (by simp))) zlin_none
theorem zlin_ai (xs : List Int) (h : zH) (r : Option Nat) (i : Int) (f : (zL → List zV → zH → Option zR) → Int → Option zR) (hf : ∀ v, zlin h (fun k => f k v)) : zlin h (fun k => zai xs h r i (f k)) := by
  unfold zai; rcases zar xs h r 100 i with _ | v | v | v <;> first | exact zlin_none | exact hf v
theorem zlin_al (xs : List Int) (h : zH) (r : Option Nat) (i : Int) (f : (zL → List zV → zH → Option zR) → Int → Option zR) (hf : ∀ v, zlin h (fun k => f k v)) : zlin h (fun k => zal xs h r i (f k)) := by
  unfold zal; rcases zar xs h r 101 i with _ | v | v | v <;> first | exact zlin_none | exact hf v
theorem zlin_aa (xs : List Int) (h : zH) (r : Option Nat) (tag : Nat) (i : Int) (f : (zL → List zV → zH → Option zR) → Option Nat → Option zR) (hf : ∀ v, zlin h (fun k => f k v)) : zlin h (fun k => zaa xs h r tag i (f k)) := by
  unfold zaa; rcases zar xs h r tag i with _ | v | v | v <;> first | exact zlin_none | exact hf v
theorem zlin_st (h : zH) (r : Option Nat) (tag : Nat) (i : Int) (v : zV) (f : (zL → List zV → zH → Option zR) → zH → Option zR) (hf : ∀ v, zge h v → zlin h (fun k => f k v)) : zlin h (fun k => zst h r tag i v (f k)) := by
  unfold zst
  rcases r with _ | _ | p
  · exact zlin_none
  · exact zlin_none
  · dsimp only
    cases hc : h[p]? with
    | none => exact zlin_none
    | some c => exact zlin_if (hf _ (zge_set hc (by simp))) zlin_none
theorem zlin_ln (xs : List Int) (h : zH) (r : Option Nat) (f : (zL → List zV → zH → Option zR) → Int → Option zR) (hf : ∀ v, zlin h (fun k => f k v)) : zlin h (fun k => zln xs h r (f k)) := by
  unfold zln
  rcases r with _ | _ | p
  · exact zlin_none
  · exact hf _
  · dsimp only
    cases h[p]? with
    | none => exact zlin_none
    | some c => exact zlin_if (hf _) zlin_none
theorem zS_lin (xs : List Int) (I : Instr) (x : List Nat) (c : Int) (L : zL) (st : List zV) (h : zH) : zlin h (fun k => zS xs I x c L st h k) := by
  cases I
  case iload i => simp only [zS]; rcases zld L i with _ | v | v | v <;> first | exact zlin_none | exact zlin_k _ _ _
  case iload_n i => simp only [zS]; rcases zld L i with _ | v | v | v <;> first | exact zlin_none | exact zlin_k _ _ _
  case lload i => simp only [zS]; rcases zld L i with _ | v | v | v <;> first | exact zlin_none | exact zlin_k _ _ _
  case lload_n i => simp only [zS]; rcases zld L i with _ | v | v | v <;> first | exact zlin_none | exact zlin_k _ _ _
  case aload i => simp only [zS]; rcases zld L i with _ | v | v | v <;> first | exact zlin_none | exact zlin_k _ _ _
  case aload_n i => simp only [zS]; rcases zld L i with _ | v | v | v <;> first | exact zlin_none | exact zlin_k _ _ _
  case iinc i n => simp only [zS]; rcases zld L i with _ | v | v | v <;> first | exact zlin_none | exact zlin_k _ _ _
  case getfield i =>
    rcases x with _ | ⟨ci, _ | ⟨j, _ | ⟨_ | _ | _ | ty, _ | ⟨x4, x⟩⟩⟩⟩ <;> rcases st with _ | ⟨a | a | a, st⟩ <;> first | exact zlin_none | exact zlin_gi _ _ _ _ _ fun v => zlin_k _ _ _ | exact zlin_gl _ _ _ _ _ fun v => zlin_k _ _ _ | exact zlin_gr _ _ _ _ _ fun v => zlin_k _ _ _
  case putfield i =>
    rcases x with _ | ⟨ci, _ | ⟨j, _ | ⟨_ | _ | _ | _ | ty, _ | ⟨x4, x⟩⟩⟩⟩ <;> rcases st with _ | ⟨a | a | a, _ | ⟨b | b | b, st⟩⟩ <;> first | exact zlin_none | exact zlin_pf _ _ _ _ _ _ fun v hv => zlin_kg _ _ _ hv | exact zlin_if (zlin_pf _ _ _ _ _ _ fun v hv => zlin_kg _ _ _ hv) zlin_none
  case iaload => rcases st with _ | ⟨a | a | a, _ | ⟨b | b | b, st⟩⟩ <;> first | exact zlin_none | exact zlin_ai _ _ _ _ _ fun v => zlin_k _ _ _
  case laload => rcases st with _ | ⟨a | a | a, _ | ⟨b | b | b, st⟩⟩ <;> first | exact zlin_none | exact zlin_al _ _ _ _ _ fun v => zlin_k _ _ _
  case aaload => rcases x with _ | ⟨t, _ | ⟨t2, x⟩⟩ <;> rcases st with _ | ⟨a | a | a, _ | ⟨b | b | b, st⟩⟩ <;> first | exact zlin_none | exact zlin_aa _ _ _ _ _ _ fun v => zlin_k _ _ _
  case iastore => rcases st with _ | ⟨a | a | a, _ | ⟨b | b | b, _ | ⟨d | d | d, st⟩⟩⟩ <;> first | exact zlin_none | exact zlin_st _ _ _ _ _ _ fun v hv => zlin_kg _ _ _ hv
  case lastore => rcases st with _ | ⟨a | a | a, _ | ⟨b | b | b, _ | ⟨d | d | d, st⟩⟩⟩ <;> first | exact zlin_none | exact zlin_st _ _ _ _ _ _ fun v hv => zlin_kg _ _ _ hv
  case aastore =>
    rcases x with _ | ⟨t, _ | ⟨t2, _ | ⟨t3, x⟩⟩⟩ <;> rcases st with _ | ⟨a | a | (_ | _ | a), _ | ⟨b | b | b, _ | ⟨d | d | d, st⟩⟩⟩ <;> first | exact zlin_none | skip
    simp only [zS]
    cases h[a]? with
    | none => exact zlin_none
    | some c => exact zlin_if (zlin_st _ _ _ _ _ _ fun v hv => zlin_kg _ _ _ hv) zlin_none
  case arraylength => rcases st with _ | ⟨a | a | a, st⟩ <;> first | exact zlin_none | exact (show zlin h (fun k => zln xs h a fun v => k L (.inl v :: st) h) from zlin_ln _ _ _ (fun k v => k L (.inl v :: st) h) fun v => zlin_k _ _ _)
  case new i => rcases x with _ | ⟨t, x⟩ <;> first | exact zlin_none | exact zlin_kg _ _ _ (zge_app _ _)
  case newarray i =>
    rcases x with _ | ⟨_ | _ | t, _ | ⟨t2, x⟩⟩ <;> rcases st with _ | ⟨a | a | a, st⟩ <;> first | exact zlin_none | exact zlin_if (zlin_kg _ _ _ (zge_app _ _)) zlin_none
  case anewarray i =>
    rcases x with _ | ⟨t, _ | ⟨t2, x⟩⟩ <;> rcases st with _ | ⟨a | a | a, st⟩ <;> first | exact zlin_none | exact zlin_if (zlin_kg _ _ _ (zge_app _ _)) zlin_none
  all_goals first
    | exact zlin_none
    | exact zlin_k _ _ _
    | (rcases st with _ | ⟨a | a | a, st⟩ <;> first | exact zlin_none | exact zlin_k _ _ _ | (rcases st with _ | ⟨b | b | b, st⟩ <;> first | exact zlin_none | exact zlin_k _ _ _ | exact zlin_if zlin_none (zlin_k _ _ _)))

/-- what a bounded reading gives, a longer one gives; what the limit gives, a bounded one gives -/
theorem zcont_J (B : Nat → Nat → Option (List zE)) (R : Nat → Nat → Nat → zL → List zV → zH → Option zR) (R0 : Nat → Nat → zL → List zV → zH → Option zR) (hR : ∀ m pc L st h r, R0 m pc L st h = some r → ∃ N, ∀ n, N ≤ n → R n m pc L st h = some r)
    (m : Nat) (x : List Nat) (L : zL) (st : List zV) (h : zH) (r : zR) (q : zJ (R0 m) x L st h = some r) : ∃ N, ∀ n, N ≤ n → zJ (R n m) x L st h = some r := by
  rcases x with _ | ⟨t, x⟩
  · cases q
  · exact hR _ _ _ _ _ _ q
theorem zcont_if {c : Prop} [Decidable c] {a0 b0 : Option zR} {a b : Nat → Option zR} {r : zR} (ha : a0 = some r → ∃ N, ∀ n, N ≤ n → a n = some r) (hb : b0 = some r → ∃ N, ∀ n, N ≤ n → b n = some r) (q : (if c then a0 else b0) = some r) : ∃ N, ∀ n, N ≤ n → (if c then a n else b n) = some r := by
  by_cases hc : c
  · rw [if_pos hc] at q
    obtain ⟨N, e⟩ := ha q
    exact ⟨N, fun n hn => by rw [if_pos hc]; exact e n hn⟩
  · rw [if_neg hc] at q
    obtain ⟨N, e⟩ := hb q
    exact ⟨N, fun n hn => by rw [if_neg hc]; exact e n hn⟩
theorem zcont_Y {o0 : Option zR} {o : Nat → Option zR} (ho : ∀ r1, o0 = some r1 → ∃ N, ∀ n, N ≤ n → o n = some r1) (t : Nat) (L : zL) (st : List zV) (k0 : zL → List zV → zH → Option zR) (k : Nat → zL → List zV → zH → Option zR) (r : zR) (hk : ∀ L' st' h', k0 L' st' h' = some r → ∃ N, ∀ n, N ≤ n → k n L' st' h' = some r)
    (q : zY t o0 L st k0 = some r) : ∃ N, ∀ n, N ≤ n → zY t (o n) L st (k n) = some r := by
  cases h1 : o0 with
  | none => rcases t with _ | _ | _ | _ | t <;> rw [h1] at q <;> cases q
  | some r1 =>
    obtain ⟨N1, e1⟩ := ho r1 h1
    rw [h1] at q
    obtain ⟨v, h2⟩ := r1
    rcases t with _ | _ | _ | _ | t <;> rcases v with _ | v | v | v <;> simp only [zY, zcv, zci, zcl, zcr] at q <;> first
      | (cases q; done)
      | (obtain ⟨N2, e2⟩ := hk _ _ _ q
         refine ⟨max N1 N2, fun n' hn' => ?_⟩
         rw [e1 n' (by omega)]
         exact e2 n' (by omega))
theorem zcont_ck {o0 : Option zR} {o : Nat → Option zR} {r : zR} (ho : o0 = some r → ∃ N, ∀ n, N ≤ n → o n = some r) (h : zH) (rr : Option Nat) (ci : Nat) (q : zck h rr ci o0 = some r) : ∃ N, ∀ n, N ≤ n → zck h rr ci (o n) = some r := by
  unfold zck at q ⊢
  rcases rr with _ | _ | p
  · cases q
  · cases q
  · dsimp only at q ⊢
    cases hc : h[p]? with
    | none => rw [hc] at q; cases q
    | some c =>
      rw [hc] at q
      exact zcont_if ho (fun q => by cases q) q
theorem zcont_X (R : Nat → Nat → Nat → zL → List zV → zH → Option zR) (R0 : Nat → Nat → zL → List zV → zH → Option zR) (hR : ∀ m pc L st h r, R0 m pc L st h = some r → ∃ N, ∀ n, N ≤ n → R n m pc L st h = some r)
    (x : List Nat) (L : zL) (st : List zV) (h : zH) (k0 : zL → List zV → zH → Option zR) (k : Nat → zL → List zV → zH → Option zR) (r : zR) (hk : ∀ L' st' h', k0 L' st' h' = some r → ∃ N, ∀ n, N ≤ n → k n L' st' h' = some r)
    (q : zX R0 x L st h k0 = some r) : ∃ N, ∀ n, N ≤ n → zX (R n) x L st h (k n) = some r := by
  rcases x with _ | ⟨m, _ | ⟨n, _ | ⟨t, _ | ⟨mx, _ | ⟨t2, _ | ⟨t3, x⟩⟩⟩⟩⟩⟩
  · cases q
  · cases q
  · cases q
  · cases q
  · exact zcont_if (zcont_Y (fun r1 q1 => hR _ _ _ _ _ _ q1) t L _ k0 k r hk) (fun q => by cases q) q
  · exact zcont_if (zcont_ck (zcont_Y (fun r1 q1 => hR _ _ _ _ _ _ q1) t L _ k0 k r hk) h _ _) (fun q => by cases q) q
  · cases q
theorem zcont_lin {h0 : zH} {F : (zL → List zV → zH → Option zR) → Option zR} (hF : zlin h0 F) {k0 : zL → List zV → zH → Option zR} {k : Nat → zL → List zV → zH → Option zR} {r : zR} (hk : ∀ L' st' h', k0 L' st' h' = some r → ∃ N, ∀ n, N ≤ n → k n L' st' h' = some r) (q : F k0 = some r) : ∃ N, ∀ n, N ≤ n → F (k n) = some r := by
  rcases hF with hF | ⟨L', st', h', -, hF⟩
  · rw [hF] at q; cases q
  · rw [hF] at q
    obtain ⟨N, e⟩ := hk _ _ _ q
    exact ⟨N, fun n hn => by rw [hF]; exact e n hn⟩
theorem zcont_I (xs : List Int) (R : Nat → Nat → Nat → zL → List zV → zH → Option zR) (R0 : Nat → Nat → zL → List zV → zH → Option zR) (hR : ∀ m pc L st h r, R0 m pc L st h = some r → ∃ N, ∀ n, N ≤ n → R n m pc L st h = some r)
    (m : Nat) (I : Instr) (x : List Nat) (c : Int) (L : zL) (st : List zV) (h : zH) (k0 : zL → List zV → zH → Option zR) (k : Nat → zL → List zV → zH → Option zR) (r : zR) (hk : ∀ L' st' h', k0 L' st' h' = some r → ∃ N, ∀ n, N ≤ n → k n L' st' h' = some r)
    (q : zI xs R0 m I x c L st h k0 = some r) : ∃ N, ∀ n, N ≤ n → zI xs (R n) m I x c L st h (k n) = some r := by
  have hJ : ∀ (L : zL) (st : List zV) (h : zH), zJ (R0 m) x L st h = some r → ∃ N, ∀ n, N ≤ n → zJ (R n m) x L st h = some r := fun L st h => zcont_J (fun _ _ => none) R R0 hR m x L st h r
  have hX := fun (L : zL) (st : List zV) (h : zH) => zcont_X R R0 hR x L st h k0 k r hk
  obtain ⟨J, hJ0⟩ : ∃ J, J = I := ⟨I, rfl⟩
  cases I
  case ifCond cnd off =>
    cases cnd <;> rcases st with _ | ⟨a | a | a, st⟩ <;> first
      | (cases q; done)
      | exact zcont_if (hJ _ _ _) (hk _ _ _) q
  case if_icmp cnd off =>
    cases cnd <;> rcases st with _ | ⟨a | a | a, _ | ⟨b | b | b, st⟩⟩ <;> first
      | (cases q; done)
      | exact zcont_if (hJ _ _ _) (hk _ _ _) q
  case ifnull off =>
    rcases st with _ | ⟨a | a | (_ | a), st⟩ <;> first | (cases q; done) | exact hJ _ _ _ q | exact hk _ _ _ q
  case ifnonnull off =>
    rcases st with _ | ⟨a | a | (_ | a), st⟩ <;> first | (cases q; done) | exact hJ _ _ _ q | exact hk _ _ _ q
  case tableswitch d lo hi offs =>
    rcases x with _ | ⟨n, _ | ⟨d2, x⟩⟩ <;> rcases st with _ | ⟨a | a | a, st⟩ <;> first | (cases q; done) | skip
    simp only [zI] at q ⊢
    split at q
    next hc => simp only [hc, if_true]; exact hR _ _ _ _ _ _ q
    next hc =>
      simp only [hc, if_false]
      cases ht : (x.drop n)[(zw a - lo).toNat]? with
      | none => rw [ht] at q; cases q
      | some t => rw [ht] at q; exact hR _ _ _ _ _ _ q
  case ireturn => exact ⟨0, fun _ _ => q⟩
  case lreturn => exact ⟨0, fun _ _ => q⟩
  case areturn => exact ⟨0, fun _ _ => q⟩
  case return_ => exact ⟨0, fun _ _ => q⟩
  case invokevirtual i => exact hX _ _ _ q
  case invokestatic i =>
    rcases x with _ | ⟨_ | _ | t, _ | ⟨t2, x⟩⟩
    · exact hX L st h q
    · rcases st with _ | ⟨b | b | b, _ | ⟨a | a | a, st⟩⟩ <;> first | (cases q; done) | exact zcont_if (hk _ _ _) (fun q => by cases q) q
    · exact hX L st h q
    · rcases st with _ | ⟨b | b | b, _ | ⟨a | a | a, st⟩⟩ <;> first | (cases q; done) | exact zcont_if (hk _ _ _) (fun q => by cases q) q
    · exact hX L st h q
    · exact hX L st h q
    · exact hX L st h q
  case invokespecial i =>
    rcases x with _ | ⟨t, x⟩
    · rcases st with _ | ⟨a | a | (_ | a), _ | ⟨b, st⟩⟩ <;> first | (cases q; done) | exact hk _ _ _ q
    · exact hX L st h q
  case nop => exact hJ _ _ _ q
  case goto off => exact hJ _ _ _ q
  all_goals
    have z := zS_lin xs J x c L st h
    rw [hJ0] at z
    exact zcont_lin z hk q
theorem zcont_B (xs : List Int) (R : Nat → Nat → Nat → zL → List zV → zH → Option zR) (R0 : Nat → Nat → zL → List zV → zH → Option zR) (hR : ∀ m pc L st h r, R0 m pc L st h = some r → ∃ N, ∀ n, N ≤ n → R n m pc L st h = some r)
    (m : Nat) (r : zR) : ∀ (b : List zE) (L : zL) (st : List zV) (h : zH), zB xs R0 m b L st h = some r → ∃ N, ∀ n, N ≤ n → zB xs (R n) m b L st h = some r
  | [], _, _, _, q => by cases q
  | (I, x, c) :: t, L, st, h, q => zcont_I xs R R0 hR m I x c L st h (zB xs R0 m t) (fun n => zB xs (R n) m t) r (fun L' st' h' q' => zcont_B xs R R0 hR m r t L' st' h' q') q
theorem zrun_succ (B : Nat → Nat → Option (List zE)) (xs : List Int) : ∀ (n m pc : Nat) (L : zL) (st : List zV) (h : zH) (r : zR), zrun B xs n m pc L st h = some r → zrun B xs (n + 1) m pc L st h = some r := by
  intro n
  induction n with
  | zero => intro m pc L st h r q; cases q
  | succ n ih =>
    intro m pc L st h r q
    rw [zrun] at q ⊢
    cases hb : B m pc with
    | none => rw [hb] at q; cases q
    | some b =>
      rw [hb] at q
      obtain ⟨N, e⟩ := zcont_B xs (fun _ => zrun B xs (n + 1)) (zrun B xs n) (fun m pc L st h r q => ⟨0, fun _ _ => ih m pc L st h r q⟩) m r b L st h q
      exact e N (Nat.le_refl _)
theorem zrun_le (B : Nat → Nat → Option (List zE)) (xs : List Int) {n n' m pc : Nat} {L : zL} {st : List zV} {h : zH} {r : zR} (hn : n ≤ n') (q : zrun B xs n m pc L st h = some r) : zrun B xs n' m pc L st h = some r := by
  induction hn with
  | refl => exact q
  | step _ ih => exact zrun_succ B xs _ _ _ _ _ _ _ ih
theorem zx_iff (B : Nat → Nat → Option (List zE)) (xs : List Int) (m pc : Nat) (L : zL) (st : List zV) (h : zH) (r : zR) : zx B xs m pc L st h = some r ↔ ∃ n, zrun B xs n m pc L st h = some r := by
  unfold zx
  constructor
  · intro q
    split at q
    next hq =>
      obtain ⟨n, e⟩ := Classical.choose_spec hq
      cases q
      exact ⟨n, e⟩
    next => cases q
  · rintro ⟨n, e⟩
    have hq : ∃ r n, zrun B xs n m pc L st h = some r := ⟨r, n, e⟩
    rw [dif_pos hq]
    obtain ⟨n', e'⟩ := Classical.choose_spec hq
    have h1 := zrun_le B xs (Nat.le_max_left n n') e
    have h2 := zrun_le B xs (Nat.le_max_right n n') e'
    rw [h1] at h2
    exact h2.symm
theorem zx_unfold (B : Nat → Nat → Option (List zE)) (xs : List Int) (m pc : Nat) (b : List zE) (hb : B m pc = some b) (L : zL) (st : List zV) (h : zH) : zx B xs m pc L st h = zB xs (zx B xs) m b L st h := by
  have k1 : ∀ r, zx B xs m pc L st h = some r → zB xs (zx B xs) m b L st h = some r := by
    intro r q
    obtain ⟨n, e⟩ := (zx_iff B xs m pc L st h r).mp q
    cases n with
    | zero => cases e
    | succ n =>
      rw [zrun, hb] at e
      obtain ⟨N, e2⟩ := zcont_B xs (fun _ => zx B xs) (zrun B xs n) (fun m pc L st h r q => ⟨0, fun _ _ => (zx_iff B xs m pc L st h r).mpr ⟨n, q⟩⟩) m r b L st h e
      exact e2 N (Nat.le_refl _)
  have k2 : ∀ r, zB xs (zx B xs) m b L st h = some r → zx B xs m pc L st h = some r := by
    intro r q
    obtain ⟨N, e⟩ := zcont_B xs (zrun B xs) (zx B xs) (fun m pc L st h r q => by
      obtain ⟨n, e⟩ := (zx_iff B xs m pc L st h r).mp q
      exact ⟨n, fun n' hn' => zrun_le B xs hn' e⟩) m r b L st h q
    exact (zx_iff B xs m pc L st h r).mpr ⟨N + 1, by rw [zrun, hb]; exact e N (Nat.le_refl _)⟩
  cases h1 : zx B xs m pc L st h with
  | some r => exact (k1 r h1).symm
  | none =>
    cases h2 : zB xs (zx B xs) m b L st h with
    | none => rfl
    | some r => rw [k2 r h2] at h1; cases h1

/-- what is read leaves the heap no smaller -/
theorem zgrow_J (rec : Nat → zL → List zV → zH → Option zR) {r : zR} (hr : ∀ pc L st h, rec pc L st h = some r → zge h r.2) (x : List Nat) (L : zL) (st : List zV) (h : zH) (q : zJ rec x L st h = some r) : zge h r.2 := by
  rcases x with _ | ⟨t, x⟩
  · cases q
  · exact hr _ _ _ _ q
theorem zgrow_if {c : Prop} [Decidable c] {a b : Option zR} {r : zR} {P : Prop} (ha : a = some r → P) (hb : b = some r → P) (q : (if c then a else b) = some r) : P := by
  by_cases hc : c
  · rw [if_pos hc] at q; exact ha q
  · rw [if_neg hc] at q; exact hb q
theorem zgrow_Y {o : Option zR} {h : zH} (ho : ∀ r1, o = some r1 → zge h r1.2) (t : Nat) (L : zL) (st : List zV) (k : zL → List zV → zH → Option zR) (r : zR) (hk : ∀ L' st' h', k L' st' h' = some r → zge h' r.2)
    (q : zY t o L st k = some r) : zge h r.2 := by
  cases h1 : o with
  | none => rcases t with _ | _ | _ | _ | t <;> rw [h1] at q <;> cases q
  | some r1 =>
    have e1 := ho r1 h1
    rw [h1] at q
    obtain ⟨v, h2⟩ := r1
    rcases t with _ | _ | _ | _ | t <;> rcases v with _ | v | v | v <;> simp only [zY, zcv, zci, zcl, zcr] at q <;> first
      | (cases q; done)
      | exact zge_tr e1 (hk _ _ _ q)
theorem zgrow_ck {o : Option zR} {r : zR} {P : Prop} (ho : o = some r → P) (h : zH) (rr : Option Nat) (ci : Nat) (q : zck h rr ci o = some r) : P := by
  unfold zck at q
  rcases rr with _ | _ | p
  · cases q
  · cases q
  · dsimp only at q
    cases hc : h[p]? with
    | none => rw [hc] at q; cases q
    | some c =>
      rw [hc] at q
      exact zgrow_if ho (fun q => by cases q) q
theorem zgrow_X (rec : Nat → Nat → zL → List zV → zH → Option zR) (hr : ∀ m pc L st h r, rec m pc L st h = some r → zge h r.2) (x : List Nat) (L : zL) (st : List zV) (h : zH) (k : zL → List zV → zH → Option zR) (r : zR) (hk : ∀ L' st' h', k L' st' h' = some r → zge h' r.2)
    (q : zX rec x L st h k = some r) : zge h r.2 := by
  rcases x with _ | ⟨m, _ | ⟨n, _ | ⟨t, _ | ⟨mx, _ | ⟨t2, _ | ⟨t3, x⟩⟩⟩⟩⟩⟩
  · cases q
  · cases q
  · cases q
  · cases q
  · exact zgrow_if (zgrow_Y (fun r1 q1 => hr _ _ _ _ _ _ q1) t L _ k r hk) (fun q => by cases q) q
  · exact zgrow_if (zgrow_ck (zgrow_Y (fun r1 q1 => hr _ _ _ _ _ _ q1) t L _ k r hk) h _ _) (fun q => by cases q) q
  · cases q
theorem zgrow_lin {h : zH} {F : (zL → List zV → zH → Option zR) → Option zR} (hF : zlin h F) {k : zL → List zV → zH → Option zR} {r : zR} (hk : ∀ L' st' h', k L' st' h' = some r → zge h' r.2) (q : F k = some r) : zge h r.2 := by
  rcases hF with hF | ⟨L', st', h', hg, hF⟩
  · rw [hF] at q; cases q
  · rw [hF] at q
    exact zge_tr hg (hk _ _ _ q)
theorem zgrow_I (xs : List Int) (rec : Nat → Nat → zL → List zV → zH → Option zR) (hr : ∀ m pc L st h r, rec m pc L st h = some r → zge h r.2)
    (m : Nat) (I : Instr) (x : List Nat) (c : Int) (L : zL) (st : List zV) (h : zH) (k : zL → List zV → zH → Option zR) (r : zR) (hk : ∀ L' st' h', k L' st' h' = some r → zge h' r.2)
    (q : zI xs rec m I x c L st h k = some r) : zge h r.2 := by
  have hJ : ∀ (L : zL) (st : List zV) (h : zH), zJ (rec m) x L st h = some r → zge h r.2 := fun L st h => zgrow_J (rec m) (fun pc L st h q => hr m pc L st h r q) x L st h
  have hX := fun (L : zL) (st : List zV) (h : zH) => zgrow_X rec hr x L st h k r hk
  obtain ⟨J, hJ0⟩ : ∃ J, J = I := ⟨I, rfl⟩
  cases I
  case ifCond cnd off =>
    cases cnd <;> rcases st with _ | ⟨a | a | a, st⟩ <;> first
      | (cases q; done)
      | exact zgrow_if (hJ _ _ _) (hk _ _ _) q
  case if_icmp cnd off =>
    cases cnd <;> rcases st with _ | ⟨a | a | a, _ | ⟨b | b | b, st⟩⟩ <;> first
      | (cases q; done)
      | exact zgrow_if (hJ _ _ _) (hk _ _ _) q
  case ifnull off =>
    rcases st with _ | ⟨a | a | (_ | a), st⟩ <;> first | (cases q; done) | exact hJ _ _ _ q | exact hk _ _ _ q
  case ifnonnull off =>
    rcases st with _ | ⟨a | a | (_ | a), st⟩ <;> first | (cases q; done) | exact hJ _ _ _ q | exact hk _ _ _ q
  case tableswitch d lo hi offs =>
    rcases x with _ | ⟨n, _ | ⟨d2, x⟩⟩ <;> rcases st with _ | ⟨a | a | a, st⟩ <;> first | (cases q; done) | skip
    simp only [zI] at q
    split at q
    next hc => exact hr _ _ _ _ _ _ q
    next hc =>
      cases ht : (x.drop n)[(zw a - lo).toNat]? with
      | none => rw [ht] at q; cases q
      | some t => rw [ht] at q; exact hr _ _ _ _ _ _ q
  case ireturn =>
    rcases x with _ | ⟨_ | _ | t, _ | ⟨t2, x⟩⟩ <;> rcases st with _ | ⟨a | a | a, _ | ⟨b, st⟩⟩ <;> first
      | (cases q; done)
      | (cases q; exact zge_rf _)
      | (exact zgrow_if (fun q => by cases q; exact zge_rf _) (fun q => by cases q) q)
  case lreturn => rcases st with _ | ⟨a | a | a, _ | ⟨b, st⟩⟩ <;> first | (cases q; done) | (cases q; exact zge_rf _)
  case areturn => rcases st with _ | ⟨a | a | a, _ | ⟨b, st⟩⟩ <;> first | (cases q; done) | (cases q; exact zge_rf _)
  case return_ => rcases st with _ | ⟨a, st⟩ <;> first | (cases q; done) | (cases q; exact zge_rf _)
  case invokevirtual i => exact hX _ _ _ q
  case invokestatic i =>
    rcases x with _ | ⟨_ | _ | t, _ | ⟨t2, x⟩⟩
    · exact hX L st h q
    · rcases st with _ | ⟨b | b | b, _ | ⟨a | a | a, st⟩⟩ <;> first | (cases q; done) | exact zgrow_if (hk _ _ _) (fun q => by cases q) q
    · exact hX L st h q
    · rcases st with _ | ⟨b | b | b, _ | ⟨a | a | a, st⟩⟩ <;> first | (cases q; done) | exact zgrow_if (hk _ _ _) (fun q => by cases q) q
    · exact hX L st h q
    · exact hX L st h q
    · exact hX L st h q
  case invokespecial i =>
    rcases x with _ | ⟨t, x⟩
    · rcases st with _ | ⟨a | a | (_ | a), _ | ⟨b, st⟩⟩ <;> first | (cases q; done) | exact hk _ _ _ q
    · exact hX L st h q
  case nop => exact hJ _ _ _ q
  case goto off => exact hJ _ _ _ q
  all_goals
    have z := zS_lin xs J x c L st h
    rw [hJ0] at z
    exact zgrow_lin z hk q
theorem zgrow_B (xs : List Int) (rec : Nat → Nat → zL → List zV → zH → Option zR) (hr : ∀ m pc L st h r, rec m pc L st h = some r → zge h r.2)
    (m : Nat) (r : zR) : ∀ (b : List zE) (L : zL) (st : List zV) (h : zH), zB xs rec m b L st h = some r → zge h r.2
  | [], _, _, _, q => by cases q
  | (I, x, c) :: t, L, st, h, q => zgrow_I xs rec hr m I x c L st h (zB xs rec m t) r (fun L' st' h' q' => zgrow_B xs rec hr m r t L' st' h' q') q
theorem zgrow_run (B : Nat → Nat → Option (List zE)) (xs : List Int) : ∀ (n m pc : Nat) (L : zL) (st : List zV) (h : zH) (r : zR), zrun B xs n m pc L st h = some r → zge h r.2 := by
  intro n
  induction n with
  | zero => intro m pc L st h r q; cases q
  | succ n ih =>
    intro m pc L st h r q
    rw [zrun] at q
    cases hb : B m pc with
    | none => rw [hb] at q; cases q
    | some b =>
      rw [hb] at q
      exact zgrow_B xs _ ih m r b L st h q
end
section
/-! ===== whole numbers and machine numbers ===== -/
theorem zw_toInt (a : Int) : (Int32.ofInt a).toInt = zw a := by
  rw [Int32.toInt_ofInt, Int.bmod_def]
  unfold zw
  simp only [Int32.size]
  split <;> omega
theorem zwl_toInt (a : Int) : (Int64.ofInt a).toInt = zwl a := by
  rw [Int64.toInt_ofInt, Int.bmod_def]
  unfold zwl
  simp only [Int64.size]
  split <;> omega
theorem zw_of (a : Int) : Int32.ofInt (zw a) = Int32.ofInt a := by rw [← zw_toInt, Int32.ofInt_toInt]
theorem zwl_of (a : Int) : Int64.ofInt (zwl a) = Int64.ofInt a := by rw [← zwl_toInt, Int64.ofInt_toInt]
theorem zw_lo (a : Int) : -2147483648 ≤ zw a := by unfold zw; omega
theorem zw_hi (a : Int) : zw a ≤ 2147483647 := by unfold zw; omega
theorem zw_id {a : Int} (h1 : -2147483648 ≤ a) (h2 : a ≤ 2147483647) : zw a = a := by unfold zw; omega
theorem zwl_lo (a : Int) : -9223372036854775808 ≤ zwl a := by unfold zwl; omega
theorem zwl_hi (a : Int) : zwl a ≤ 9223372036854775807 := by unfold zwl; omega
theorem zwl_id {a : Int} (h1 : -9223372036854775808 ≤ a) (h2 : a ≤ 9223372036854775807) : zwl a = a := by unfold zwl; omega
theorem zw_min : Int32.minValue.toInt = -2147483648 := by decide
theorem zw_max : Int32.maxValue.toInt = 2147483647 := by decide
theorem zwl_min : Int64.minValue.toInt = -9223372036854775808 := by decide
theorem zwl_max : Int64.maxValue.toInt = 9223372036854775807 := by decide
theorem zw_div (a b : Int) : Int32.ofInt ((zw a).tdiv (zw b)) = Int32.ofInt a / Int32.ofInt b := by
  rw [Int32.ofInt_tdiv (by rw [zw_min]; exact zw_lo a) (by rw [zw_max]; exact zw_hi a) (by rw [zw_min]; exact zw_lo b) (by rw [zw_max]; exact zw_hi b), zw_of, zw_of]
theorem zwl_div (a b : Int) : Int64.ofInt ((zwl a).tdiv (zwl b)) = Int64.ofInt a / Int64.ofInt b := by
  rw [Int64.ofInt_tdiv (by rw [zwl_min]; exact zwl_lo a) (by rw [zwl_max]; exact zwl_hi a) (by rw [zwl_min]; exact zwl_lo b) (by rw [zwl_max]; exact zwl_hi b), zwl_of, zwl_of]
theorem zw_mod (a b : Int) : Int32.ofInt ((zw a).tmod (zw b)) = Int32.ofInt a - Int32.ofInt a / Int32.ofInt b * Int32.ofInt b := by
  have h : (zw a).tmod (zw b) = zw a - (zw a).tdiv (zw b) * zw b := by rw [Int.tmod_def, Int.mul_comm]
  rw [h, Int32.ofInt_sub, Int32.ofInt_mul, zw_div, zw_of, zw_of]
theorem zwl_mod (a b : Int) : Int64.ofInt ((zwl a).tmod (zwl b)) = Int64.ofInt a - Int64.ofInt a / Int64.ofInt b * Int64.ofInt b := by
  have h : (zwl a).tmod (zwl b) = zwl a - (zwl a).tdiv (zwl b) * zwl b := by rw [Int.tmod_def, Int.mul_comm]
  rw [h, Int64.ofInt_sub, Int64.ofInt_mul, zwl_div, zwl_of, zwl_of]
theorem zw_eq (a b : Int) : Int32.ofInt a = Int32.ofInt b ↔ zw a = zw b := by rw [← Int32.toInt_inj, zw_toInt, zw_toInt]
theorem zw_lt (a b : Int) : Int32.ofInt a < Int32.ofInt b ↔ zw a < zw b := by rw [Int32.lt_iff_toInt_lt, zw_toInt, zw_toInt]
theorem zw_le (a b : Int) : Int32.ofInt a ≤ Int32.ofInt b ↔ zw a ≤ zw b := by rw [Int32.le_iff_toInt_le, zw_toInt, zw_toInt]
theorem zwl_eq (a b : Int) : Int64.ofInt a = Int64.ofInt b ↔ zwl a = zwl b := by rw [← Int64.toInt_inj, zwl_toInt, zwl_toInt]
theorem zwl_lt (a b : Int) : Int64.ofInt a < Int64.ofInt b ↔ zwl a < zwl b := by rw [Int64.lt_iff_toInt_lt, zwl_toInt, zwl_toInt]
theorem zw_eq0 (a : Int) : Int32.ofInt a = 0 ↔ zw a = 0 := by
  have h := zw_eq a 0
  rw [show zw 0 = 0 by rfl] at h
  exact h
theorem zwl_eq0 (a : Int) : Int64.ofInt a = 0 ↔ zwl a = 0 := by
  have h := zwl_eq a 0
  rw [show zwl 0 = 0 by rfl] at h
  exact h
theorem zw_lt0 (a : Int) : Int32.ofInt a < 0 ↔ zw a < 0 := by
  have h := zw_lt a 0
  rw [show zw 0 = 0 by rfl] at h
  exact h
theorem zw_gt0 (a : Int) : 0 < Int32.ofInt a ↔ 0 < zw a := by
  have h := zw_lt 0 a
  rw [show zw 0 = 0 by rfl] at h
  exact h
theorem zw_le0 (a : Int) : Int32.ofInt a ≤ 0 ↔ zw a ≤ 0 := by
  have h := zw_le a 0
  rw [show zw 0 = 0 by rfl] at h
  exact h
theorem zw_ge0 (a : Int) : 0 ≤ Int32.ofInt a ↔ 0 ≤ zw a := by
  have h := zw_le 0 a
  rw [show zw 0 = 0 by rfl] at h
  exact h
theorem zw_i2l (a : Int) : (Int32.ofInt a).toInt64 = Int64.ofInt (zw a) := by
  rw [← zw_of, Int32.toInt64_ofInt (by rw [zw_min]; exact zw_lo a) (by rw [zw_max]; exact zw_hi a)]
theorem zw_l2i (a : Int) : (Int64.ofInt a).toInt32 = Int32.ofInt a := Int64.toInt32_ofInt
theorem zwl_cmp (a b : Int) : lg_cmp (Int64.ofInt a) (Int64.ofInt b) = Int32.ofInt (if zwl a < zwl b then -1 else if zwl a = zwl b then 0 else 1) := by
  unfold lg_cmp
  by_cases h1 : zwl b < zwl a
  · rw [if_pos (show Int64.ofInt b < Int64.ofInt a from (zwl_lt b a).mpr h1), if_neg (by omega), if_neg (by omega)]
    rfl
  · rw [if_neg (show ¬ Int64.ofInt b < Int64.ofInt a from fun h => h1 ((zwl_lt b a).mp h))]
    by_cases h2 : zwl a = zwl b
    · rw [if_pos ((zwl_eq a b).mpr h2), if_neg (by omega), if_pos h2]
      rfl
    · rw [if_neg (fun h => h2 ((zwl_eq a b).mp h)), if_pos (by omega)]
      rfl
theorem zw_clamp (a : Int) : (Int32.ofInt a).toNatClampNeg = (zw a).toNat := by
  show (Int32.ofInt a).toInt.toNat = _
  rw [zw_toInt]
theorem zw_in {a : Int} {n : Nat} (h0 : 0 ≤ zw a) (h : (zw a).toNat < n) : vp_in (Int32.ofInt a) n := by
  unfold vp_in
  rw [zw_lt0, zw_clamp]
  omega
theorem zw_bip {n : Int} (h1 : -128 ≤ n) (h2 : n ≤ 127) : (Int8.ofInt n).toInt32 = Int32.ofInt n := Int8.toInt32_ofInt (by rw [show Int8.minValue.toInt = -128 by decide]; exact h1) (by rw [show Int8.maxValue.toInt = 127 by decide]; exact h2)
theorem zw_sip {n : Int} (h1 : -32768 ≤ n) (h2 : n ≤ 32767) : (Int16.ofInt n).toInt32 = Int32.ofInt n := Int16.toInt32_ofInt (by rw [show Int16.minValue.toInt = -32768 by decide]; exact h1) (by rw [show Int16.maxValue.toInt = 32767 by decide]; exact h2)
end
section
/-! ===== how a state of the reading lies in the machine ===== -/
/-- places to addresses -/
def zcR (ads : List Nat) : zV → Value → Prop
  | .inl x, V => V = .int (Int32.ofInt x)
  | .inr (.inl x), V => V = .long (Int64.ofInt x)
  | .inr (.inr none), V => V = .null
  | .inr (.inr (some p)), V => ∃ a, ads[p]? = some a ∧ V = .ref a
def zpre (ads ads' : List Nat) : Prop := ∀ (i a : Nat), ads[i]? = some a → ads'[i]? = some a
theorem zpre_rf (ads : List Nat) : zpre ads ads := fun _ _ h => h
theorem zpre_tr {a b c : List Nat} (h1 : zpre a b) (h2 : zpre b c) : zpre a c := fun i x h => h2 i x (h1 i x h)
theorem zpre_app (a b : List Nat) : zpre a (a ++ b) := fun i x h => by
  rw [List.getElem?_append_left (List.getElem?_eq_some_iff.mp h).1]; exact h
theorem zcR_pre {ads ads' : List Nat} (hp : zpre ads ads') : ∀ {v : zV} {V : Value}, zcR ads v V → zcR ads' v V
  | .inl _, _, h => h
  | .inr (.inl _), _, h => h
  | .inr (.inr none), _, h => h
  | .inr (.inr (some _)), _, ⟨a, h1, h2⟩ => ⟨a, hp _ _ h1, h2⟩
theorem zcR_cat {ads : List Nat} : ∀ {v : zV} {V : Value}, zcR ads v V → V.category = zcat v
  | .inl _, _, h => by cases h; rfl
  | .inr (.inl _), _, h => by cases h; rfl
  | .inr (.inr none), _, h => by cases h; rfl
  | .inr (.inr (some _)), _, ⟨_, _, h⟩ => by cases h; rfl
def zSt (ads : List Nat) : List zV → List Value → Prop
  | [], [] => True
  | v :: t, V :: T => zcR ads v V ∧ zSt ads t T
  | _, _ => False
theorem zSt_pre {ads ads' : List Nat} (hp : zpre ads ads') : ∀ {t : List zV} {T : List Value}, zSt ads t T → zSt ads' t T
  | [], [], _ => trivial
  | _ :: _, _ :: _, h => ⟨zcR_pre hp h.1, zSt_pre hp h.2⟩
  | [], _ :: _, h => h.elim
  | _ :: _, [], h => h.elim
theorem zSt_len {ads : List Nat} : ∀ {t : List zV} {T : List Value}, zSt ads t T → T.length = t.length
  | [], [], _ => rfl
  | _ :: _, _ :: _, h => by simp [zSt_len h.2]
  | [], _ :: _, h => h.elim
  | _ :: _, [], h => h.elim
theorem zSt_get {ads : List Nat} : ∀ {t : List zV} {T : List Value} {k : Nat} {v : zV}, zSt ads t T → t[k]? = some v → ∃ V, T[k]? = some V ∧ zcR ads v V
  | [], [], k, v, _, h => by simp at h
  | w :: t, W :: T, 0, v, h, q => by
    simp at q
    subst q
    exact ⟨W, by simp, h.1⟩
  | w :: t, W :: T, k + 1, v, h, q => by
    simp at q
    obtain ⟨V, h1, h2⟩ := zSt_get h.2 q
    exact ⟨V, by simpa using h1, h2⟩
  | [], _ :: _, _, _, h, _ => h.elim
  | _ :: _, [], _, _, h, _ => h.elim
theorem zSt_set {ads : List Nat} : ∀ {t : List zV} {T : List Value} (k : Nat) {v : zV} {V : Value}, zSt ads t T → zcR ads v V → zSt ads (t.set k v) (T.set k V)
  | [], [], _, _, _, _, _ => trivial
  | _ :: _, _ :: _, 0, _, _, h, q => ⟨q, h.2⟩
  | _ :: _, _ :: _, k + 1, _, _, h, q => ⟨h.1, zSt_set k h.2 q⟩
  | [], _ :: _, _, _, _, h, _ => h.elim
  | _ :: _, [], _, _, _, h, _ => h.elim
theorem zSt_take {ads : List Nat} : ∀ (n : Nat) {t : List zV} {T : List Value}, zSt ads t T → zSt ads (t.take n) (T.take n) ∧ zSt ads (t.drop n) (T.drop n)
  | 0, t, T, h => ⟨trivial, h⟩
  | n + 1, [], [], _ => ⟨trivial, trivial⟩
  | n + 1, _ :: _, _ :: _, h => ⟨⟨h.1, (zSt_take n h.2).1⟩, (zSt_take n h.2).2⟩
  | n + 1, [], _ :: _, h => h.elim
  | n + 1, _ :: _, [], h => h.elim
theorem zSt_app {ads : List Nat} : ∀ {t : List zV} {T : List Value} {t2 : List zV} {T2 : List Value}, zSt ads t T → zSt ads t2 T2 → zSt ads (t ++ t2) (T ++ T2)
  | [], [], _, _, _, h2 => h2
  | _ :: _, _ :: _, _, _, h, h2 => ⟨h.1, zSt_app h.2 h2⟩
  | [], _ :: _, _, _, h, _ => h.elim
  | _ :: _, [], _, _, h, _ => h.elim
theorem zSt_rev {ads : List Nat} : ∀ {t : List zV} {T : List Value}, zSt ads t T → zSt ads t.reverse T.reverse
  | [], [], _ => trivial
  | _ :: _, _ :: _, h => by
    rw [List.reverse_cons, List.reverse_cons]
    exact zSt_app (zSt_rev h.2) ⟨h.1, trivial⟩
  | [], _ :: _, h => h.elim
  | _ :: _, [], h => h.elim
theorem zSt_cat {ads : List Nat} : ∀ {t : List zV} {T : List Value}, zSt ads t T → (T.map fun v => v.category).sum ≤ 2 * t.length
  | [], [], _ => by simp
  | v :: t, V :: T, h => by
    have h1 := zSt_cat h.2
    have h2 := zcR_cat h.1
    have h3 : zcat v ≤ 2 := by rcases v with v | v | v <;> simp [zcat]
    simp only [List.map_cons, List.sum_cons, List.length_cons]
    omega
  | [], _ :: _, h => h.elim
  | _ :: _, [], h => h.elim
/-- the locals -/
def zLo (ads : List Nat) (nL : Nat) (L : zL) (ls : Array Slot) : Prop := ls.size = nL ∧ lv_wf ls ∧ ∀ (i : Nat) (v : zV), L[i]? = some (some v) → ∃ V, ls[i]? = some (.val V) ∧ zcR ads v V
theorem zLo_pre {ads ads' : List Nat} (hp : zpre ads ads') {nL : Nat} {L : zL} {ls : Array Slot} (h : zLo ads nL L ls) : zLo ads' nL L ls := ⟨h.1, h.2.1, fun i v q => by
  obtain ⟨V, h1, h2⟩ := h.2.2 i v q
  exact ⟨V, h1, zcR_pre hp h2⟩⟩
theorem zLo_ld {ads : List Nat} {nL : Nat} {L : zL} {ls : Array Slot} (h : zLo ads nL L ls) {i : Nat} {v : zV} (q : zld L i = some v) : ∃ V, ls[i]? = some (.val V) ∧ zcR ads v V := by
  unfold zld at q
  split at q
  next w hw => cases q; exact h.2.2 i v hw
  next => cases q
theorem zkeep_get : ∀ (m : List Nat) (L : zL) (i : Nat) (v : zV), (zkeep m L)[i]? = some (some v) → L[i]? = some (some v)
  | [], L, i, v, h => by simp [zkeep] at h
  | a :: m, [], i, v, h => by simp [zkeep] at h
  | 0 :: m, w :: t, 0, v, h => by simp [zkeep] at h
  | 0 :: m, w :: t, i + 1, v, h => by simp [zkeep] at h ⊢; exact zkeep_get m t i v h
  | (_ + 1) :: m, w :: t, 0, v, h => by simpa [zkeep] using h
  | (_ + 1) :: m, w :: t, i + 1, v, h => by simp [zkeep] at h ⊢; exact zkeep_get m t i v h
theorem zLo_keep {ads : List Nat} {nL : Nat} {L : zL} {ls : Array Slot} (h : zLo ads nL L ls) (m : List Nat) : zLo ads nL (zkeep m L) ls := ⟨h.1, h.2.1, fun i v q => h.2.2 i v (zkeep_get m L i v q)⟩
/-- what stands in L after a store, stood there before or is the stored one -/
theorem zset1_get : ∀ (L : zL) (i : Nat) (w : Option zV) (j : Nat) (v : zV), (zset1 L i w)[j]? = some (some v) → (j = i ∧ w = some v) ∨ (j ≠ i ∧ L[j]? = some (some v) ∧ ¬ (j + 1 = i ∧ zcat v = 2))
  | [], 0, w, 0, v, h => by simp [zset1] at h; exact Or.inl ⟨rfl, h⟩
  | [], 0, w, j + 1, v, h => by simp [zset1] at h
  | [], i + 1, w, 0, v, h => by simp [zset1] at h
  | [], i + 1, w, j + 1, v, h => by
    simp [zset1] at h
    rcases zset1_get [] i w j v h with ⟨h1, h2⟩ | ⟨h1, h2, h3⟩
    · exact Or.inl ⟨by omega, h2⟩
    · simp at h2
  | a :: t, 0, w, 0, v, h => by simp [zset1] at h; exact Or.inl ⟨rfl, h⟩
  | a :: t, 0, w, j + 1, v, h => by simp [zset1] at h; exact Or.inr ⟨by omega, by simpa using h, by omega⟩
  | a :: t, i + 1, w, 0, v, h => by
    have key : ∀ b : Option zV, b = some v → b = a → (0 = i + 1 ∧ w = some v) ∨ (0 ≠ i + 1 ∧ (a :: t)[0]? = some (some v) ∧ ¬ (0 + 1 = i + 1 ∧ zcat v = 2)) ∨ (i = 0 ∧ zcat v = 2) := by
      intro b h1 h2
      subst h2
      by_cases hi : i = 0 ∧ zcat v = 2
      · exact Or.inr (Or.inr hi)
      · refine Or.inr (Or.inl ⟨by omega, by simp [h1], ?_⟩)
        intro q; exact hi ⟨by omega, q.2⟩
    rcases a with _ | a | a | a
    · simp [zset1] at h
    · simp [zset1] at h
      rcases key _ (by simp [h]) rfl with q | q | ⟨q1, q2⟩
      · exact Or.inl q
      · exact Or.inr q
      · subst h; simp [zcat] at q2
    · rcases i with _ | i
      · simp [zset1] at h
      · simp [zset1] at h
        rcases key _ (by simp [h]) rfl with q | q | ⟨q1, q2⟩
        · exact Or.inl q
        · exact Or.inr q
        · omega
    · simp [zset1] at h
      rcases key _ (by simp [h]) rfl with q | q | ⟨q1, q2⟩
      · exact Or.inl q
      · exact Or.inr q
      · subst h; simp [zcat] at q2
  | a :: t, i + 1, w, j + 1, v, h => by
    have h' : (zset1 t i w)[j]? = some (some v) := by
      rcases a with _ | a | a | a
      · simpa [zset1] using h
      · simpa [zset1] using h
      · rcases i with _ | i <;> simpa [zset1] using h
      · simpa [zset1] using h
    rcases zset1_get t i w j v h' with ⟨h1, h2⟩ | ⟨h1, h2, h3⟩
    · exact Or.inl ⟨by omega, h2⟩
    · exact Or.inr ⟨by omega, by simpa using h2, by omega⟩
theorem zset2_get : ∀ (L : zL) (i : Nat) (w : Option zV) (j : Nat) (v : zV), (zset2 L i w)[j]? = some (some v) → (j = i ∧ w = some v) ∨ (j ≠ i ∧ j ≠ i + 1 ∧ L[j]? = some (some v) ∧ ¬ (j + 1 = i ∧ zcat v = 2))
  | [], 0, w, 0, v, h => by simp [zset2] at h; exact Or.inl ⟨rfl, h⟩
  | [], 0, w, 1, v, h => by simp [zset2] at h
  | [], 0, w, j + 2, v, h => by simp [zset2] at h
  | [], i + 1, w, 0, v, h => by simp [zset2] at h
  | [], i + 1, w, j + 1, v, h => by
    simp [zset2] at h
    rcases zset2_get [] i w j v h with ⟨h1, h2⟩ | ⟨h1, h2, h3, h4⟩
    · exact Or.inl ⟨by omega, h2⟩
    · simp at h3
  | [a], 0, w, 0, v, h => by simp [zset2] at h; exact Or.inl ⟨rfl, h⟩
  | [a], 0, w, 1, v, h => by simp [zset2] at h
  | [a], 0, w, j + 2, v, h => by simp [zset2] at h
  | a :: b :: t, 0, w, 0, v, h => by simp [zset2] at h; exact Or.inl ⟨rfl, h⟩
  | a :: b :: t, 0, w, 1, v, h => by simp [zset2] at h
  | a :: b :: t, 0, w, j + 2, v, h => by simp [zset2] at h; exact Or.inr ⟨by omega, by omega, by simpa using h, by omega⟩
  | a :: t, i + 1, w, 0, v, h => by
    have key : ∀ b : Option zV, b = some v → b = a → (0 = i + 1 ∧ w = some v) ∨ (0 ≠ i + 1 ∧ 0 ≠ i + 1 + 1 ∧ (a :: t)[0]? = some (some v) ∧ ¬ (0 + 1 = i + 1 ∧ zcat v = 2)) ∨ (i = 0 ∧ zcat v = 2) := by
      intro b h1 h2
      subst h2
      by_cases hi : i = 0 ∧ zcat v = 2
      · exact Or.inr (Or.inr hi)
      · refine Or.inr (Or.inl ⟨by omega, by omega, by simp [h1], ?_⟩)
        intro q; exact hi ⟨by omega, q.2⟩
    have fin : zcat v ≠ 2 ∨ i ≠ 0 → a = some v → (0 = i + 1 ∧ w = some v) ∨ (0 ≠ i + 1 ∧ 0 ≠ i + 1 + 1 ∧ (a :: t)[0]? = some (some v) ∧ ¬ (0 + 1 = i + 1 ∧ zcat v = 2)) := by
      intro hn ha
      rcases key _ ha rfl with q | q | ⟨q1, q2⟩
      · exact Or.inl q
      · exact Or.inr q
      · omega
    rcases a with _ | a | a | a
    · rcases t with _ | ⟨b, t⟩ <;> simp [zset2] at h
    · have ha : some (Sum.inl a) = some v := by rcases t with _ | ⟨b, t⟩ <;> simpa [zset2] using h
      exact fin (Or.inl (by cases ha; simp [zcat])) ha
    · rcases i with _ | i
      · rcases t with _ | ⟨b, t⟩ <;> simp [zset2] at h
      · have ha : some (Sum.inr (Sum.inl a)) = some v := by rcases t with _ | ⟨b, t⟩ <;> simpa [zset2] using h
        exact fin (Or.inr (by omega)) ha
    · have ha : some (Sum.inr (Sum.inr a)) = some v := by rcases t with _ | ⟨b, t⟩ <;> simpa [zset2] using h
      exact fin (Or.inl (by cases ha; simp [zcat])) ha
  | a :: t, i + 1, w, j + 1, v, h => by
    have h' : (zset2 t i w)[j]? = some (some v) := by
      rcases a with _ | a | a | a
      · rcases t with _ | ⟨b, t⟩ <;> simpa [zset2] using h
      · rcases t with _ | ⟨b, t⟩ <;> simpa [zset2] using h
      · rcases i with _ | i <;> rcases t with _ | ⟨b, t⟩ <;> simpa [zset2] using h
      · rcases t with _ | ⟨b, t⟩ <;> simpa [zset2] using h
    rcases zset2_get t i w j v h' with ⟨h1, h2⟩ | ⟨h1, h2, h3, h4⟩
    · exact Or.inl ⟨by omega, h2⟩
    · exact Or.inr ⟨by omega, by omega, by simpa using h3, by omega⟩
theorem zLo_lv {ads : List Nat} {nL : Nat} {L : zL} {ls : Array Slot} (h : zLo ads nL L ls) : ∃ lv : List (Nat × Value), lv_has ls nL lv ∧ ∀ (i : Nat) (v : zV), L[i]? = some (some v) → ∃ V, (i, V) ∈ lv ∧ zcR ads v V := by
  have key : ∀ (L : zL) (k : Nat), (∀ (i : Nat) (v : zV), L[i]? = some (some v) → ∃ V, ls[k + i]? = some (.val V) ∧ zcR ads v V) → ∃ lv : List (Nat × Value), (∀ q ∈ lv, ls[q.1]? = some (.val q.2)) ∧ ∀ (i : Nat) (v : zV), L[i]? = some (some v) → ∃ V, (k + i, V) ∈ lv ∧ zcR ads v V := by
    intro L
    induction L with
    | nil => exact fun k _ => ⟨[], fun q hq => by simp at hq, fun i v hv => by simp at hv⟩
    | cons a t ih =>
      intro k hk
      obtain ⟨lv, h1, h2⟩ := ih (k + 1) (fun i v hv => by
        obtain ⟨V, e1, e2⟩ := hk (i + 1) v (by simpa using hv)
        exact ⟨V, by rw [show k + 1 + i = k + (i + 1) by omega]; exact e1, e2⟩)
      cases a with
      | none =>
        refine ⟨lv, h1, fun i v hv => ?_⟩
        cases i with
        | zero => simp at hv
        | succ i =>
          obtain ⟨V, e1, e2⟩ := h2 i v (by simpa using hv)
          exact ⟨V, by rw [show k + (i + 1) = k + 1 + i by omega]; exact e1, e2⟩
      | some w =>
        obtain ⟨W, e1, e2⟩ := hk 0 w (by simp)
        refine ⟨(k, W) :: lv, fun q hq => ?_, fun i v hv => ?_⟩
        · rcases List.mem_cons.mp hq with rfl | hq
          · simpa using e1
          · exact h1 q hq
        · cases i with
          | zero =>
            simp at hv
            subst hv
            exact ⟨W, by simp, e2⟩
          | succ i =>
            obtain ⟨V, e3, e4⟩ := h2 i v (by simpa using hv)
            exact ⟨V, by rw [show k + (i + 1) = k + 1 + i by omega]; exact List.mem_cons_of_mem _ e3, e4⟩
  obtain ⟨lv, h1, h2⟩ := key L 0 (fun i v hv => by
    obtain ⟨V, e1, e2⟩ := h.2.2 i v hv
    exact ⟨V, by rw [Nat.zero_add]; exact e1, e2⟩)
  exact ⟨lv, ⟨h.1, h.2.1, h1⟩, fun i v hv => by
    obtain ⟨V, e1, e2⟩ := h2 i v hv
    exact ⟨V, by rw [Nat.zero_add] at e1; exact e1, e2⟩⟩
theorem zLo_s1 {ads : List Nat} {nL i : Nat} {L : zL} {ls' : Array Slot} {lv : List (Nat × Value)} {v0 : zV} {V0 : Value} (hc : ∀ (i : Nat) (v : zV), L[i]? = some (some v) → ∃ V, (i, V) ∈ lv ∧ zcR ads v V) (h0 : zcR ads v0 V0)
    (h : lv_has ls' nL ((i, V0) :: lv.filter (fun q => !(q.1 == i) && !(q.1 + 1 == i && q.2.category == 2)))) : zLo ads nL (zset1 L i (some v0)) ls' := by
  refine ⟨h.1, h.2.1, fun j v hv => ?_⟩
  rcases zset1_get L i _ j v hv with ⟨rfl, e⟩ | ⟨h1, h2, h3⟩
  · cases e
    exact ⟨V0, h.2.2 (j, V0) List.mem_cons_self, h0⟩
  · obtain ⟨V, e1, e2⟩ := hc j v h2
    refine ⟨V, h.2.2 (j, V) (List.mem_cons_of_mem _ (List.mem_filter.mpr ⟨e1, ?_⟩)), e2⟩
    have hcat := zcR_cat e2
    simp only [Bool.and_eq_true, Bool.not_eq_true', beq_eq_false_iff_ne, ne_eq, Bool.and_eq_false_iff]
    refine ⟨h1, ?_⟩
    by_cases q : j + 1 = i
    · right; intro z; exact h3 ⟨q, by rw [← hcat]; exact z⟩
    · left; exact q
theorem zLo_s2 {ads : List Nat} {nL i : Nat} {L : zL} {ls' : Array Slot} {lv : List (Nat × Value)} {v0 : zV} {V0 : Value} (hc : ∀ (i : Nat) (v : zV), L[i]? = some (some v) → ∃ V, (i, V) ∈ lv ∧ zcR ads v V) (h0 : zcR ads v0 V0)
    (h : lv_has ls' nL ((i, V0) :: lv.filter (fun q => !(q.1 == i) && (!(q.1 == i + 1) && !(q.1 + 1 == i && q.2.category == 2))))) : zLo ads nL (zset2 L i (some v0)) ls' := by
  refine ⟨h.1, h.2.1, fun j v hv => ?_⟩
  rcases zset2_get L i _ j v hv with ⟨rfl, e⟩ | ⟨h1, h2, h3, h4⟩
  · cases e
    exact ⟨V0, h.2.2 (j, V0) List.mem_cons_self, h0⟩
  · obtain ⟨V, e1, e2⟩ := hc j v h3
    refine ⟨V, h.2.2 (j, V) (List.mem_cons_of_mem _ (List.mem_filter.mpr ⟨e1, ?_⟩)), e2⟩
    have hcat := zcR_cat e2
    simp only [Bool.and_eq_true, Bool.not_eq_true', beq_eq_false_iff_ne, ne_eq, Bool.and_eq_false_iff]
    refine ⟨h1, h2, ?_⟩
    by_cases q : j + 1 = i
    · right; intro z; exact h4 ⟨q, by rw [← hcat]; exact z⟩
    · left; exact q
/-- stacks by their top -/
theorem zSt_i {ads : List Nat} {x : Int} {t : List zV} {T : List Value} (h : zSt ads (.inl x :: t) T) : ∃ T', T = .int (Int32.ofInt x) :: T' ∧ zSt ads t T' := by
  rcases T with _ | ⟨V, T⟩
  · exact h.elim
  · obtain ⟨h1, h2⟩ := h
    cases h1
    exact ⟨T, rfl, h2⟩
theorem zSt_l {ads : List Nat} {x : Int} {t : List zV} {T : List Value} (h : zSt ads (.inr (.inl x) :: t) T) : ∃ T', T = .long (Int64.ofInt x) :: T' ∧ zSt ads t T' := by
  rcases T with _ | ⟨V, T⟩
  · exact h.elim
  · obtain ⟨h1, h2⟩ := h
    cases h1
    exact ⟨T, rfl, h2⟩
theorem zSt_r {ads : List Nat} {x : Option Nat} {t : List zV} {T : List Value} (h : zSt ads (.inr (.inr x) :: t) T) : ∃ V T', T = V :: T' ∧ zcR ads (.inr (.inr x)) V ∧ zSt ads t T' := by
  rcases T with _ | ⟨V, T⟩
  · exact h.elim
  · exact ⟨V, T, rfl, h.1, h.2⟩
/-- cells -/
def zCe (cl : List vw_C) (ads : List Nat) (tys : List (ClassId × FieldType)) (c : Nat × List zV) (e : va_E) : Prop :=
  (c.1 < 100 ∧ ∃ fs, e = .inr (c.1, fs) ∧ zSt ads c.2 fs) ∨
  (c.1 = 100 ∧ ∃ (cA : ClassId) (f : Nat → Int32), e = .inl (cA, c.2.length, .inl f) ∧ (cA, FieldType.int) ∈ tys ∧ ∀ (j : Nat) (v : zV), c.2[j]? = some v → ∃ x, v = .inl x ∧ f j = Int32.ofInt x) ∨
  (c.1 = 101 ∧ ∃ (cA : ClassId) (f : Nat → Int64), e = .inl (cA, c.2.length, .inr (.inl f)) ∧ (cA, FieldType.long) ∈ tys ∧ ∀ (j : Nat) (v : zV), c.2[j]? = some v → ∃ x, v = .inr (.inl x) ∧ f j = Int64.ofInt x) ∨
  (102 ≤ c.1 ∧ ∃ (cA : ClassId) (f : Nat → Option Nat) (r : vw_C), e = .inl (cA, c.2.length, .inr (.inr (.inr (.inr f)))) ∧ cl[c.1 - 102]? = some r ∧ (cA, FieldType.object r.1) ∈ tys ∧ ∀ (j : Nat) (v : zV), c.2[j]? = some v → ∃ x, v = .inr (.inr x) ∧ zcR ads (.inr (.inr x)) (va_rf (f j)))
theorem zCe_mono {cl : List vw_C} {ads ads' : List Nat} {tys tys' : List (ClassId × FieldType)} (hp : zpre ads ads') (ht : ∀ q ∈ tys, q ∈ tys') {c : Nat × List zV} {e : va_E} (h : zCe cl ads tys c e) : zCe cl ads' tys' c e := by
  rcases h with ⟨h1, fs, h2, h3⟩ | ⟨h1, cA, f, h2, h3, h4⟩ | ⟨h1, cA, f, h2, h3, h4⟩ | ⟨h1, cA, f, r, h2, h3, h4, h5⟩
  · exact Or.inl ⟨h1, fs, h2, zSt_pre hp h3⟩
  · exact Or.inr (Or.inl ⟨h1, cA, f, h2, ht _ h3, h4⟩)
  · exact Or.inr (Or.inr (Or.inl ⟨h1, cA, f, h2, ht _ h3, h4⟩))
  · refine Or.inr (Or.inr (Or.inr ⟨h1, cA, f, r, h2, h3, ht _ h4, fun j v hv => ?_⟩))
    obtain ⟨x, e1, e2⟩ := h5 j v hv
    exact ⟨x, e1, zcR_pre hp e2⟩
def zRep (cl : List vw_C) (ads : List Nat) (tys : List (ClassId × FieldType)) (ws : va_W) (h : zH) : Prop :=
  ws.length = h.length ∧ ads.length = h.length + 1 ∧ ∀ (k : Nat) (c : Nat × List zV), h[k]? = some c → ∃ a e, ads[k + 1]? = some a ∧ ws[k]? = some (a, e) ∧ zCe cl ads tys c e
theorem zRep_set {cl : List vw_C} {ads : List Nat} {tys : List (ClassId × FieldType)} {ws : va_W} {h : zH} (hR : zRep cl ads tys ws h) {p a : Nat} {c' : Nat × List zV} {e' : va_E} (ha : ads[p + 1]? = some a) (hc : zCe cl ads tys c' e') : zRep cl ads tys (ws.set p (a, e')) (h.set p c') := by
  obtain ⟨h1, h2, h3⟩ := hR
  refine ⟨by simp [h1], by simp [h2], fun k c hk => ?_⟩
  by_cases hkp : p = k
  · subst hkp
    have hl : p < h.length := by
      have := (List.getElem?_eq_some_iff.mp hk).1
      simpa using this
    rw [List.getElem?_set_self hl] at hk
    cases hk
    exact ⟨a, e', ha, by rw [List.getElem?_set_self (by omega)], hc⟩
  · rw [List.getElem?_set_ne hkp] at hk
    obtain ⟨a1, e1, q1, q2, q3⟩ := h3 k c hk
    exact ⟨a1, e1, q1, by rw [List.getElem?_set_ne hkp]; exact q2, q3⟩
theorem zRep_app {cl : List vw_C} {ads : List Nat} {tys tys' : List (ClassId × FieldType)} {ws : va_W} {h : zH} (hR : zRep cl ads tys ws h) (ht : ∀ q ∈ tys, q ∈ tys') {a : Nat} {c' : Nat × List zV} {e' : va_E} (hc : zCe cl ads tys' c' e') : zRep cl (ads ++ [a]) tys' (ws ++ [(a, e')]) (h ++ [c']) := by
  obtain ⟨h1, h2, h3⟩ := hR
  refine ⟨by simp [h1], by simp [h2], fun k c hk => ?_⟩
  by_cases hl : k < h.length
  · rw [List.getElem?_append_left hl] at hk
    obtain ⟨a1, e1, q1, q2, q3⟩ := h3 k c hk
    exact ⟨a1, e1, zpre_app _ _ _ _ q1, by rw [List.getElem?_append_left (by omega)]; exact q2, zCe_mono (zpre_app _ _) ht q3⟩
  · rw [List.getElem?_append_right (by omega)] at hk
    have hz : k - h.length < 1 := (List.getElem?_eq_some_iff.mp hk).1
    have hk0 : k = h.length := by omega
    subst hk0
    simp at hk
    subst hk
    refine ⟨a, e', ?_, ?_, zCe_mono (zpre_app _ _) (fun _ q => q) hc⟩
    · rw [List.getElem?_append_right (by omega), h2]; simp
    · rw [List.getElem?_append_right (by omega), h1]; simp
theorem zty_mem {tys : List (ClassId × FieldType)} {q : ClassId × FieldType} (h : q ∈ tys) : ∃ t0 : Nat, tys[t0]? = some q := List.getElem?_of_mem h
end
section
/-! ===== one step of the reading is a step of the machine ===== -/
def zlen : Instr → Nat
  | .bipush _ => 2
  | .sipush _ => 3
  | .ldc _ => 2
  | .ldc_w _ => 3
  | .ldc2_w _ => 3
  | .iload _ => 2
  | .lload _ => 2
  | .aload _ => 2
  | .istore _ => 2
  | .lstore _ => 2
  | .astore _ => 2
  | .iinc _ _ => 3
  | .getfield _ => 3
  | .putfield _ => 3
  | .new _ => 3
  | .anewarray _ => 3
  | .newarray _ => 2
  | .goto _ => 3
  | .ifCond _ _ => 3
  | .if_icmp _ _ => 3
  | .ifnull _ => 3
  | .ifnonnull _ => 3
  | .invokevirtual _ => 3
  | .invokestatic _ => 3
  | .invokespecial _ => 3
  | _ => 1
def zxf (xs : List Int) : Nat → Int32 := fun j => Int32.ofInt (xs.getD j 0)
/-- what the tables say of a field's use, of a class, of a constant -/
def zFl (cl : List vw_C) (Ts : List Cond) (own : String) (idx ci j : Nat) : Prop := ∃ (T : u_T) (N : Nat), cl[ci]? = some (own, T, N) ∧ j < N ∧ (T j).1 = own ∧ Cond.fieldLink own idx own (T j).2.1 (T j).2.2.1 ∈ Ts
def zKd (k : Nat) (ty : FieldType) : Prop := match k with
  | 0 => ty = .int
  | 1 => ty = .long
  | 2 => (∃ n, ty = .object n) ∨ ∃ t, ty = .array t
  | 3 => ty = .boolean
  | _ => False
def zPf (cl : List vw_C) (Ts : List Cond) (own : String) (ctor : Bool) (idx ci j k : Nat) : Prop := ∃ (T : u_T) (N : Nat), cl[ci]? = some (own, T, N) ∧ j < N ∧ (T j).1 = own ∧ Cond.fieldLink own idx own (T j).2.1 (T j).2.2.1 ∈ Ts ∧ (∃ ty, parseFieldDescriptor (T j).2.2.1 = some ty ∧ zKd k ty) ∧ ((T j).2.2.2 = false ∨ ctor = true)
def zCl (cl : List vw_C) (Ts : List Cond) : Prop := ∀ (ci : Nat) (C : String) (T : u_T) (N : Nat), cl[ci]? = some (C, T, N) → (∀ w ∈ u_ws C T N, w ∈ Ts) ∧ (∃ ty : Nat → FieldType, ∀ k, k < N → parseFieldDescriptor (T k).2.2.1 = some (ty k)) ∧ (∀ a, a < N → ∀ b, b < N → a ≠ b → (T a).2.1 ≠ (T b).2.1) ∧ Cond.instantiable C N ∈ Ts ∧ Cond.initialized C ∈ Ts ∧ ci < 100
def zNw (cl : List vw_C) (Ts : List Cond) (own : String) (idx ci : Nat) (ks : List Nat) : Prop := ∃ (C : String) (T : u_T) (N : Nat), cl[ci]? = some (C, T, N) ∧ ks.length = N ∧ Cond.classLink own idx C ∈ Ts ∧ ∀ (j k : Nat), ks[j]? = some k → ∃ ty, parseFieldDescriptor (T j).2.2.1 = some ty ∧ ((k = 0 ∧ (ty = .int ∨ ty = .boolean)) ∨ (k = 1 ∧ ty = .long) ∨ (k = 2 ∧ ((∃ n, ty = .object n) ∨ ∃ t, ty = .array t)))
def zOK (cl : List vw_C) (Ts : List Cond) (own : String) (ctor : Bool) (nL : Nat) (cc : ByteArray) (pc : Nat) (I : Instr) (x : List Nat) (c : Int) : Prop := decode cc pc = .ok (I, zlen I) ∧ match I with
  | .bipush n => -128 ≤ n ∧ n ≤ 127
  | .sipush n => -32768 ≤ n ∧ n ≤ 32767
  | .ldc i => Cond.constant own i (Int32.ofInt c) ∈ Ts
  | .ldc_w i => Cond.constant own i (Int32.ofInt c) ∈ Ts
  | .ldc2_w i => Cond.constantLong own i (Int64.ofInt c) ∈ Ts
  | .istore i => i < nL
  | .istore_n i => (i : Nat) < nL
  | .astore i => i < nL
  | .astore_n i => (i : Nat) < nL
  | .lstore i => i + 1 < nL
  | .lstore_n i => (i : Nat) + 1 < nL
  | .getfield i => ∃ ci j k, x = [ci, j, k] ∧ zFl cl Ts own i ci j
  | .putfield i => ∃ ci j k, x = [ci, j, k] ∧ zPf cl Ts own ctor i ci j k
  | .new i => ∃ ci ks, x = ci :: ks ∧ zNw cl Ts own i ci ks
  | .newarray t => (x = [0] ∧ t = .int ∧ Cond.arrayClass .int ∈ Ts) ∨ (x = [1] ∧ t = .long ∧ Cond.arrayClass .long ∈ Ts)
  | .anewarray i => ∃ ci C T N, x = [102 + ci] ∧ cl[ci]? = some (C, T, N) ∧ Cond.classLink own i C ∈ Ts ∧ Cond.arrayOver (.object C) ∈ Ts
  | .aaload => ∃ ci, x = [102 + ci]
  | .aastore => ∃ ci, x = [102 + ci, ci]
  | _ => True
theorem zfit_r {ads : List Nat} {r : Option Nat} {V : Value} {ty : FieldType} (h : zcR ads (.inr (.inr r)) V) (ht : (∃ n, ty = .object n) ∨ ∃ t, ty = .array t) : narrow ty V = V ∧ fits ty V = true := by
  rcases r with _ | p
  · cases h
    rcases ht with ⟨n, rfl⟩ | ⟨t, rfl⟩ <;> exact ⟨rfl, rfl⟩
  · obtain ⟨a, -, rfl⟩ := h
    rcases ht with ⟨n, rfl⟩ | ⟨t, rfl⟩ <;> exact ⟨rfl, rfl⟩
theorem zfit_b {x : Int} (h : x = 0 ∨ x = 1) : narrow .boolean (.int (Int32.ofInt x)) = .int (Int32.ofInt x) ∧ fits .boolean (.int (Int32.ofInt x)) = true := by
  rcases h with rfl | rfl <;> exact ⟨by decide, by decide⟩
/-- the place where a field is read -/
theorem zfd_some {h : zH} {r : Option Nat} {ci j : Nat} {v : zV} (q : zfd h r ci j = some v) : ∃ p c, r = some (p + 1) ∧ h[p]? = some c ∧ c.1 = ci ∧ c.2[j]? = some v := by
  rcases r with _ | _ | p
  · cases q
  · cases q
  · unfold zfd at q
    dsimp only at q
    cases hc : h[p]? with
    | none => rw [hc] at q; cases q
    | some c =>
      rw [hc] at q
      dsimp only at q
      split at q
      next he => exact ⟨p, c, rfl, hc, he, q⟩
      next => cases q
theorem zpf_some {h : zH} {r : Option Nat} {ci j : Nat} {v : zV} {f : zH → Option zR} {res : zR} (q : zpf h r ci j v f = some res) : ∃ p c, r = some (p + 1) ∧ h[p]? = some c ∧ c.1 = ci ∧ j < c.2.length ∧ f (h.set p (c.1, c.2.set j v)) = some res := by
  rcases r with _ | _ | p
  · cases q
  · cases q
  · unfold zpf at q
    dsimp only at q
    cases hc : h[p]? with
    | none => rw [hc] at q; cases q
    | some c =>
      rw [hc] at q
      dsimp only at q
      split at q
      next he => exact ⟨p, c, rfl, hc, he.1, he.2, q⟩
      next => cases q
theorem zst_some {h : zH} {r : Option Nat} {tag : Nat} {i : Int} {v : zV} {f : zH → Option zR} {res : zR} (q : zst h r tag i v f = some res) : ∃ p c, r = some (p + 1) ∧ h[p]? = some c ∧ c.1 = tag ∧ 0 ≤ zw i ∧ (zw i).toNat < c.2.length ∧ f (h.set p (c.1, c.2.set (zw i).toNat v)) = some res := by
  rcases r with _ | _ | p
  · cases q
  · cases q
  · unfold zst at q
    dsimp only at q
    cases hc : h[p]? with
    | none => rw [hc] at q; cases q
    | some c =>
      rw [hc] at q
      dsimp only at q
      split at q
      next he => exact ⟨p, c, rfl, hc, he.1, he.2.1, he.2.2, q⟩
      next => cases q
theorem zar_some {xs : List Int} {h : zH} {r : Option Nat} {tag : Nat} {i : Int} {v : zV} (q : zar xs h r tag i = some v) : 0 ≤ zw i ∧ ((r = some 0 ∧ tag = 100 ∧ ∃ x, xs[(zw i).toNat]? = some x ∧ v = .inl x) ∨ ∃ p c, r = some (p + 1) ∧ h[p]? = some c ∧ c.1 = tag ∧ c.2[(zw i).toNat]? = some v) := by
  rcases r with _ | _ | p
  · cases q
  · unfold zar at q
    dsimp only at q
    split at q
    next he =>
      refine ⟨he.2, Or.inl ⟨rfl, he.1, ?_⟩⟩
      cases hx : xs[(zw i).toNat]? with
      | none => rw [hx] at q; cases q
      | some x => rw [hx] at q; cases q; exact ⟨x, rfl, rfl⟩
    next => cases q
  · unfold zar at q
    dsimp only at q
    cases hc : h[p]? with
    | none => rw [hc] at q; cases q
    | some c =>
      rw [hc] at q
      dsimp only at q
      split at q
      next he => exact ⟨he.2, Or.inr ⟨p, c, rfl, hc, he.1, q⟩⟩
      next => cases q
theorem zRep_obj {cl : List vw_C} {ads : List Nat} {tys : List (ClassId × FieldType)} {ws : va_W} {h : zH} (hR : zRep cl ads tys ws h) {p a : Nat} {c : Nat × List zV} (hp : h[p]? = some c) (ht : c.1 < 100) (ha : ads[p + 1]? = some a) : ∃ fs, ws[p]? = some (a, .inr (c.1, fs)) ∧ zSt ads c.2 fs := by
  obtain ⟨a1, e, q1, q2, q3⟩ := hR.2.2 p c hp
  cases ha.symm.trans q1
  rcases q3 with ⟨-, fs, rfl, h3⟩ | ⟨h1, -⟩ | ⟨h1, -⟩ | ⟨h1, -⟩
  · exact ⟨fs, q2, h3⟩
  · omega
  · omega
  · omega
theorem zRep_int {cl : List vw_C} {ads : List Nat} {tys : List (ClassId × FieldType)} {ws : va_W} {h : zH} (hR : zRep cl ads tys ws h) {p a : Nat} {c : Nat × List zV} (hp : h[p]? = some c) (ht : c.1 = 100) (ha : ads[p + 1]? = some a) : ∃ (cA : ClassId) (f : Nat → Int32), ws[p]? = some (a, .inl (cA, c.2.length, .inl f)) ∧ (cA, FieldType.int) ∈ tys ∧ ∀ (j : Nat) (v : zV), c.2[j]? = some v → ∃ x, v = .inl x ∧ f j = Int32.ofInt x := by
  obtain ⟨a1, e, q1, q2, q3⟩ := hR.2.2 p c hp
  cases ha.symm.trans q1
  rcases q3 with ⟨h1, -⟩ | ⟨-, cA, f, rfl, h3, h4⟩ | ⟨h1, -⟩ | ⟨h1, -⟩
  · omega
  · exact ⟨cA, f, q2, h3, h4⟩
  · omega
  · omega
theorem zRep_long {cl : List vw_C} {ads : List Nat} {tys : List (ClassId × FieldType)} {ws : va_W} {h : zH} (hR : zRep cl ads tys ws h) {p a : Nat} {c : Nat × List zV} (hp : h[p]? = some c) (ht : c.1 = 101) (ha : ads[p + 1]? = some a) : ∃ (cA : ClassId) (f : Nat → Int64), ws[p]? = some (a, .inl (cA, c.2.length, .inr (.inl f))) ∧ (cA, FieldType.long) ∈ tys ∧ ∀ (j : Nat) (v : zV), c.2[j]? = some v → ∃ x, v = .inr (.inl x) ∧ f j = Int64.ofInt x := by
  obtain ⟨a1, e, q1, q2, q3⟩ := hR.2.2 p c hp
  cases ha.symm.trans q1
  rcases q3 with ⟨h1, -⟩ | ⟨h1, -⟩ | ⟨-, cA, f, rfl, h3, h4⟩ | ⟨h1, -⟩
  · omega
  · omega
  · exact ⟨cA, f, q2, h3, h4⟩
  · omega
theorem zRep_ref {cl : List vw_C} {ads : List Nat} {tys : List (ClassId × FieldType)} {ws : va_W} {h : zH} (hR : zRep cl ads tys ws h) {p a : Nat} {c : Nat × List zV} (hp : h[p]? = some c) (ht : 102 ≤ c.1) (ha : ads[p + 1]? = some a) : ∃ (cA : ClassId) (f : Nat → Option Nat) (r : vw_C), ws[p]? = some (a, .inl (cA, c.2.length, .inr (.inr (.inr (.inr f))))) ∧ cl[c.1 - 102]? = some r ∧ (cA, FieldType.object r.1) ∈ tys ∧ ∀ (j : Nat) (v : zV), c.2[j]? = some v → ∃ x, v = .inr (.inr x) ∧ zcR ads (.inr (.inr x)) (va_rf (f j)) := by
  obtain ⟨a1, e, q1, q2, q3⟩ := hR.2.2 p c hp
  cases ha.symm.trans q1
  rcases q3 with ⟨h1, -⟩ | ⟨h1, -⟩ | ⟨h1, -⟩ | ⟨-, cA, f, r, rfl, h3, h4, h5⟩
  · omega
  · omega
  · omega
  · exact ⟨cA, f, r, q2, h3, h4, h5⟩
theorem zRep_arr {cl : List vw_C} {ads : List Nat} {tys : List (ClassId × FieldType)} {ws : va_W} {h : zH} (hR : zRep cl ads tys ws h) {p a : Nat} {c : Nat × List zV} (hp : h[p]? = some c) (ht : 100 ≤ c.1) (ha : ads[p + 1]? = some a) : ∃ (cA : ClassId) (x : vp_A) (ty : FieldType), ws[p]? = some (a, .inl (cA, x)) ∧ (cA, ty) ∈ tys ∧ x.1 = c.2.length := by
  obtain ⟨a1, e, q1, q2, q3⟩ := hR.2.2 p c hp
  cases ha.symm.trans q1
  rcases q3 with ⟨h1, -⟩ | ⟨-, cA, f, rfl, h3, -⟩ | ⟨-, cA, f, rfl, h3, -⟩ | ⟨-, cA, f, r, rfl, -, h4, -⟩
  · omega
  · exact ⟨cA, _, _, q2, h3, rfl⟩
  · exact ⟨cA, _, _, q2, h3, rfl⟩
  · exact ⟨cA, _, _, q2, h4, rfl⟩
theorem zofNat (n : Nat) : Int32.ofNat n = Int32.ofInt (n : Int) := by
  apply Int32.toBitVec_inj.mp
  simp
def zdfv : Nat → Value
  | 0 => .int 0
  | 1 => .long 0
  | _ => .null
theorem zdfv_ok (ads : List Nat) : ∀ ks : List Nat, zSt ads (ks.map fun t => match t with | 0 => .inl 0 | 1 => .inr (.inl 0) | _ => .inr (.inr none)) (ks.map zdfv)
  | [] => trivial
  | 0 :: ks => ⟨rfl, zdfv_ok ads ks⟩
  | 1 :: ks => ⟨rfl, zdfv_ok ads ks⟩
  | (_ + 2) :: ks => ⟨rfl, zdfv_ok ads ks⟩
section ZSIM
variable {p : Program} {l : Launch} {e : Env} {R : Room} {s : State} {m : MethodId} {args : Array Value} {below : List Frame} {meth : Method} {c : Code} {Q : State → Prop}
variable {cc : ByteArray} {nL : Nat} {own : String} {D : va_G} {cl : List vw_C} {A : Nat → Prop} {xs : List Int} {ads0 : List Nat} {n0 z0 : Nat} {Ts : List Cond} {ctor : Bool}
/-- the method's own circumstances -/
def zCtx (p : Program) (s : State) (m : MethodId) (args : Array Value) (meth : Method) (c : Code) (cc : ByteArray) (nL : Nat) (own : String) (ctor : Bool) (cl : List vw_C) (A : Nat → Prop) (xs : List Int) (ads0 : List Nat) (Ts : List Cond) : Prop :=
  p.tables.exec = Jvm.exec ∧ c.code = cc ∧ c.maxLocals = nL ∧ (∀ w ∈ Ts, w.before args s = true) ∧ s.vm.findClass own = some m.cls ∧ (∀ q, s.heap.size ≤ q → A q) ∧ zCl cl Ts ∧ (ctor = true → meth.name = "<init>") ∧ ∃ b, ads0[0]? = some b ∧ va_X b xs.length (zxf xs) s s.heap ∧ b < s.heap.size ∧ ¬ A b
def zSim (p : Program) (l : Launch) (e : Env) (R : Room) (s : State) (m : MethodId) (args : Array Value) (below : List Frame) (meth : Method) (c : Code) (Q : State → Prop) (nL : Nat) (D : va_G) (cl : List vw_C) (A : Nat → Prop) (ads0 : List Nat) (n0 z0 : Nat) (pc : Nat) (L : zL) (st : List zV) (h : zH) : Prop :=
  ∀ (ls : Array Slot) (sv : List Value) (H : Heap) (locs : List Loc) (cells slots : Nat) (ads : List Nat) (tys : List (ClassId × FieldType)) (ws : va_W), zLo ads nL L ls → zSt ads st sv → zRep cl ads tys ws h → zpre ads0 ads → va_K D cl tys s → va_P D cl ws H → va_D A ws → va_S A s.heap H locs → cells + n0 = h.length → slots + z0 = zsz h → W p l e R s m args below meth c H locs cells slots Q (F0 m pc ls sv)
theorem zS_arith (C0 : zCtx p s m args meth c cc nL own ctor cl A xs ads0 Ts) {pc : Nat} {I : Instr} {x : List Nat} {cv : Int} {L : zL} {st : List zV} {h : zH} {k : zL → List zV → zH → Option zR} {res : zR} (ok : zOK cl Ts own ctor nL cc pc I x cv)
    (hk : ∀ L' st' h', k L' st' h' = some res → zSim p l e R s m args below meth c Q nL D cl A ads0 n0 z0 (pc + zlen I) L' st' h') (hr : ∀ L' st' h', k L' st' h' = some res → h'.length ≤ R.cells + n0 ∧ zsz h' ≤ R.slots + z0)
    (q : zS xs I x cv L st h k = some res) : zSim p l e R s m args below meth c Q nL D cl A ads0 n0 z0 pc L st h := by
  intro ls sv H locs cells slots ads tys ws hL hst hR hpre hK hP hD hS hn hz
  obtain ⟨hx, hb, hml, hts, hown, hA, hcl, hct, b, hb0, hX, hbl, hbA⟩ := C0
  obtain ⟨hd, ok⟩ := ok
  cases I
  case iconst n => exact lv_iconst hx hb hd rfl (hk _ _ _ q _ _ _ _ _ _ _ _ _ hL ⟨rfl, hst⟩ hR hpre hK hP hD hS hn hz)
  case bipush n => exact lv_bipush hx hb hd (zw_bip ok.1 ok.2) (hk _ _ _ q _ _ _ _ _ _ _ _ _ hL ⟨rfl, hst⟩ hR hpre hK hP hD hS hn hz)
  case sipush n => exact lv_sipush hx hb hd (zw_sip ok.1 ok.2) (hk _ _ _ q _ _ _ _ _ _ _ _ _ hL ⟨rfl, hst⟩ hR hpre hK hP hD hS hn hz)
  case ldc i => exact lv_ldc hx hb hown (hts _ ok) hd (hk _ _ _ q _ _ _ _ _ _ _ _ _ hL ⟨rfl, hst⟩ hR hpre hK hP hD hS hn hz)
  case ldc_w i => exact lv_ldcw hx hb hown (hts _ ok) hd (hk _ _ _ q _ _ _ _ _ _ _ _ _ hL ⟨rfl, hst⟩ hR hpre hK hP hD hS hn hz)
  case ldc2_w i => exact lv_ldc2 hx hb hown (hts _ ok) hd (hk _ _ _ q _ _ _ _ _ _ _ _ _ hL ⟨rfl, hst⟩ hR hpre hK hP hD hS hn hz)
  case lconst n => exact lv_lconst (v := Int64.ofInt ((n : Nat) : Int)) hx hb hd (by clear hk hr q hd ok; revert n; decide) (hk _ _ _ q _ _ _ _ _ _ _ _ _ hL ⟨rfl, hst⟩ hR hpre hK hP hD hS hn hz)
  case aconst_null => exact lv_null hx hb hd (hk _ _ _ q _ _ _ _ _ _ _ _ _ hL ⟨rfl, hst⟩ hR hpre hK hP hD hS hn hz)
  case iload i =>
    simp only [zS] at q
    split at q
    next v hv =>
      obtain ⟨V, e1, e2⟩ := zLo_ld hL hv
      cases e2
      exact lv_iload hx hb hd e1 (hk _ _ _ q _ _ _ _ _ _ _ _ _ hL ⟨rfl, hst⟩ hR hpre hK hP hD hS hn hz)
    next => cases q
  case iload_n i =>
    simp only [zS] at q
    split at q
    next v hv =>
      obtain ⟨V, e1, e2⟩ := zLo_ld hL hv
      cases e2
      exact lv_iload_n hx hb hd rfl e1 (hk _ _ _ q _ _ _ _ _ _ _ _ _ hL ⟨rfl, hst⟩ hR hpre hK hP hD hS hn hz)
    next => cases q
  case lload i =>
    simp only [zS] at q
    split at q
    next v hv =>
      obtain ⟨V, e1, e2⟩ := zLo_ld hL hv
      cases e2
      exact lv_lload hx hb hd e1 (hk _ _ _ q _ _ _ _ _ _ _ _ _ hL ⟨rfl, hst⟩ hR hpre hK hP hD hS hn hz)
    next => cases q
  case lload_n i =>
    simp only [zS] at q
    split at q
    next v hv =>
      obtain ⟨V, e1, e2⟩ := zLo_ld hL hv
      cases e2
      exact lv_lload_n hx hb hd rfl e1 (hk _ _ _ q _ _ _ _ _ _ _ _ _ hL ⟨rfl, hst⟩ hR hpre hK hP hD hS hn hz)
    next => cases q
  case aload i =>
    simp only [zS] at q
    split at q
    next v hv =>
      obtain ⟨V, e1, e2⟩ := zLo_ld hL hv
      rcases v with _ | v
      · cases e2
        exact lv_aloadN hx hb hd e1 (hk _ _ _ q _ _ _ _ _ _ _ _ _ hL ⟨rfl, hst⟩ hR hpre hK hP hD hS hn hz)
      · obtain ⟨a, e3, rfl⟩ := e2
        exact lv_aload hx hb hd e1 (hk _ _ _ q _ _ _ _ _ _ _ _ _ hL ⟨⟨a, e3, rfl⟩, hst⟩ hR hpre hK hP hD hS hn hz)
    next => cases q
  case aload_n i =>
    simp only [zS] at q
    split at q
    next v hv =>
      obtain ⟨V, e1, e2⟩ := zLo_ld hL hv
      rcases v with _ | v
      · cases e2
        exact lv_aload_nN hx hb hd rfl e1 (hk _ _ _ q _ _ _ _ _ _ _ _ _ hL ⟨rfl, hst⟩ hR hpre hK hP hD hS hn hz)
      · obtain ⟨a, e3, rfl⟩ := e2
        exact lv_aload_n hx hb hd rfl e1 (hk _ _ _ q _ _ _ _ _ _ _ _ _ hL ⟨⟨a, e3, rfl⟩, hst⟩ hR hpre hK hP hD hS hn hz)
    next => cases q
  case istore i =>
    rcases st with _ | ⟨v | v | v, st⟩ <;> first | (cases q; done) | skip
    obtain ⟨T, rfl, hst1⟩ := zSt_i hst
    obtain ⟨lv, hlv, hc⟩ := zLo_lv hL
    exact lv_istore hx hb hd hlv ok rfl (fun ls' hlz => hk _ _ _ q _ _ _ _ _ _ _ _ _ (zLo_s1 hc rfl hlz) hst1 hR hpre hK hP hD hS hn hz)
  case istore_n i =>
    rcases st with _ | ⟨v | v | v, st⟩ <;> first | (cases q; done) | skip
    obtain ⟨T, rfl, hst1⟩ := zSt_i hst
    obtain ⟨lv, hlv, hc⟩ := zLo_lv hL
    exact lv_istore_n hx hb hd rfl hlv ok rfl (fun ls' hlz => hk _ _ _ q _ _ _ _ _ _ _ _ _ (zLo_s1 hc rfl hlz) hst1 hR hpre hK hP hD hS hn hz)
  case lstore i =>
    rcases st with _ | ⟨v | v | v, st⟩ <;> first | (cases q; done) | skip
    obtain ⟨T, rfl, hst1⟩ := zSt_l hst
    obtain ⟨lv, hlv, hc⟩ := zLo_lv hL
    exact lv_lstore hx hb hd hlv ok rfl (fun ls' hlz => hk _ _ _ q _ _ _ _ _ _ _ _ _ (zLo_s2 hc rfl hlz) hst1 hR hpre hK hP hD hS hn hz)
  case lstore_n i =>
    rcases st with _ | ⟨v | v | v, st⟩ <;> first | (cases q; done) | skip
    obtain ⟨T, rfl, hst1⟩ := zSt_l hst
    obtain ⟨lv, hlv, hc⟩ := zLo_lv hL
    exact lv_lstore_n hx hb hd rfl hlv ok rfl (fun ls' hlz => hk _ _ _ q _ _ _ _ _ _ _ _ _ (zLo_s2 hc rfl hlz) hst1 hR hpre hK hP hD hS hn hz)
  case astore i =>
    rcases st with _ | ⟨v | v | v, st⟩ <;> first | (cases q; done) | skip
    obtain ⟨V, T, rfl, hv, hst1⟩ := zSt_r hst
    obtain ⟨lv, hlv, hc⟩ := zLo_lv hL
    rcases v with _ | v
    · cases hv
      exact lv_astoreN hx hb hd hlv ok rfl (fun ls' hlz => hk _ _ _ q _ _ _ _ _ _ _ _ _ (zLo_s1 hc rfl hlz) hst1 hR hpre hK hP hD hS hn hz)
    · obtain ⟨a, e3, rfl⟩ := hv
      exact lv_astore hx hb hd hlv ok rfl (fun ls' hlz => hk _ _ _ q _ _ _ _ _ _ _ _ _ (zLo_s1 hc ⟨a, e3, rfl⟩ hlz) hst1 hR hpre hK hP hD hS hn hz)
  case astore_n i =>
    rcases st with _ | ⟨v | v | v, st⟩ <;> first | (cases q; done) | skip
    obtain ⟨V, T, rfl, hv, hst1⟩ := zSt_r hst
    obtain ⟨lv, hlv, hc⟩ := zLo_lv hL
    rcases v with _ | v
    · cases hv
      exact lv_astore_nN hx hb hd rfl hlv ok rfl (fun ls' hlz => hk _ _ _ q _ _ _ _ _ _ _ _ _ (zLo_s1 hc rfl hlz) hst1 hR hpre hK hP hD hS hn hz)
    · obtain ⟨a, e3, rfl⟩ := hv
      exact lv_astore_n hx hb hd rfl hlv ok rfl (fun ls' hlz => hk _ _ _ q _ _ _ _ _ _ _ _ _ (zLo_s1 hc ⟨a, e3, rfl⟩ hlz) hst1 hR hpre hK hP hD hS hn hz)
  case iinc i n =>
    simp only [zS] at q
    split at q
    next v hv =>
      obtain ⟨V, e1, e2⟩ := zLo_ld hL hv
      cases e2
      obtain ⟨lv, hlv, hc⟩ := zLo_lv hL
      have hlv2 : lv_has ls nL ((i, .int (Int32.ofInt v)) :: lv) := ⟨hlv.1, hlv.2.1, fun q hq => by
        rcases List.mem_cons.mp hq with rfl | hq
        · exact e1
        · exact hlv.2.2 q hq⟩
      have hi : i < nL := by rw [← hL.1]; exact lv_lt e1
      exact lv_iinc (k := 0) hx hb hd hlv2 rfl (Int32.ofInt_add v n).symm hi rfl (fun ls' hlz => hk _ _ _ q _ _ _ _ _ _ _ _ _ (zLo_s1 (fun j w hw => by obtain ⟨W, z1, z2⟩ := hc j w hw; exact ⟨W, List.mem_cons_of_mem _ z1, z2⟩) rfl hlz) hst hR hpre hK hP hD hS hn hz)
    next => cases q
  case iadd =>
    rcases st with _ | ⟨b | b | b, _ | ⟨a | a | a, st⟩⟩ <;> first | (cases q; done) | skip
    obtain ⟨T, rfl, hst1⟩ := zSt_i hst
    obtain ⟨T, rfl, hst2⟩ := zSt_i hst1
    exact lv_iadd hx hb hd (hk _ _ _ q _ _ _ _ _ _ _ _ _ hL ⟨by show _ = _; rw [Int32.ofInt_add], hst2⟩ hR hpre hK hP hD hS hn hz)
  case isub =>
    rcases st with _ | ⟨b | b | b, _ | ⟨a | a | a, st⟩⟩ <;> first | (cases q; done) | skip
    obtain ⟨T, rfl, hst1⟩ := zSt_i hst
    obtain ⟨T, rfl, hst2⟩ := zSt_i hst1
    exact lv_isub hx hb hd (hk _ _ _ q _ _ _ _ _ _ _ _ _ hL ⟨by show _ = _; rw [Int32.ofInt_sub], hst2⟩ hR hpre hK hP hD hS hn hz)
  case imul =>
    rcases st with _ | ⟨b | b | b, _ | ⟨a | a | a, st⟩⟩ <;> first | (cases q; done) | skip
    obtain ⟨T, rfl, hst1⟩ := zSt_i hst
    obtain ⟨T, rfl, hst2⟩ := zSt_i hst1
    exact lv_imul hx hb hd (hk _ _ _ q _ _ _ _ _ _ _ _ _ hL ⟨by show _ = _; rw [Int32.ofInt_mul], hst2⟩ hR hpre hK hP hD hS hn hz)
  case iand =>
    rcases st with _ | ⟨b | b | b, _ | ⟨a | a | a, st⟩⟩ <;> first | (cases q; done) | skip
    obtain ⟨T, rfl, hst1⟩ := zSt_i hst
    obtain ⟨T, rfl, hst2⟩ := zSt_i hst1
    exact lv_iand hx hb hd (hk _ _ _ q _ _ _ _ _ _ _ _ _ hL ⟨by show _ = _; unfold zand; rw [Int32.ofInt_toInt], hst2⟩ hR hpre hK hP hD hS hn hz)
  case ior =>
    rcases st with _ | ⟨b | b | b, _ | ⟨a | a | a, st⟩⟩ <;> first | (cases q; done) | skip
    obtain ⟨T, rfl, hst1⟩ := zSt_i hst
    obtain ⟨T, rfl, hst2⟩ := zSt_i hst1
    exact lv_ior hx hb hd (hk _ _ _ q _ _ _ _ _ _ _ _ _ hL ⟨by show _ = _; unfold zor; rw [Int32.ofInt_toInt], hst2⟩ hR hpre hK hP hD hS hn hz)
  case ishl =>
    rcases st with _ | ⟨b | b | b, _ | ⟨a | a | a, st⟩⟩ <;> first | (cases q; done) | skip
    obtain ⟨T, rfl, hst1⟩ := zSt_i hst
    obtain ⟨T, rfl, hst2⟩ := zSt_i hst1
    exact lv_ishl hx hb hd (hk _ _ _ q _ _ _ _ _ _ _ _ _ hL ⟨by show _ = _; unfold zshl; rw [Int32.ofInt_toInt], hst2⟩ hR hpre hK hP hD hS hn hz)
  case ishr =>
    rcases st with _ | ⟨b | b | b, _ | ⟨a | a | a, st⟩⟩ <;> first | (cases q; done) | skip
    obtain ⟨T, rfl, hst1⟩ := zSt_i hst
    obtain ⟨T, rfl, hst2⟩ := zSt_i hst1
    exact lv_ishr hx hb hd (hk _ _ _ q _ _ _ _ _ _ _ _ _ hL ⟨by show _ = _; unfold zshr; rw [Int32.ofInt_toInt], hst2⟩ hR hpre hK hP hD hS hn hz)
  case iushr =>
    rcases st with _ | ⟨b | b | b, _ | ⟨a | a | a, st⟩⟩ <;> first | (cases q; done) | skip
    obtain ⟨T, rfl, hst1⟩ := zSt_i hst
    obtain ⟨T, rfl, hst2⟩ := zSt_i hst1
    exact lv_iushr hx hb hd rfl (hk _ _ _ q _ _ _ _ _ _ _ _ _ hL ⟨by show _ = _; unfold zushr; rw [Int32.ofInt_toInt], hst2⟩ hR hpre hK hP hD hS hn hz)
  case idiv =>
    rcases st with _ | ⟨b | b | b, _ | ⟨a | a | a, st⟩⟩ <;> first | (cases q; done) | skip
    obtain ⟨T, rfl, hst1⟩ := zSt_i hst
    obtain ⟨T, rfl, hst2⟩ := zSt_i hst1
    simp only [zS] at q
    split at q
    next => cases q
    next h0 => exact lv_idiv hx hb hd (fun z => h0 ((zw_eq0 b).mp z)) (hk _ _ _ q _ _ _ _ _ _ _ _ _ hL ⟨by show _ = _; rw [zw_div], hst2⟩ hR hpre hK hP hD hS hn hz)
  case irem =>
    rcases st with _ | ⟨b | b | b, _ | ⟨a | a | a, st⟩⟩ <;> first | (cases q; done) | skip
    obtain ⟨T, rfl, hst1⟩ := zSt_i hst
    obtain ⟨T, rfl, hst2⟩ := zSt_i hst1
    simp only [zS] at q
    split at q
    next => cases q
    next h0 => exact lv_irem hx hb hd (fun z => h0 ((zw_eq0 b).mp z)) (hk _ _ _ q _ _ _ _ _ _ _ _ _ hL ⟨by show _ = _; rw [zw_mod], hst2⟩ hR hpre hK hP hD hS hn hz)
  case ineg =>
    rcases st with _ | ⟨a | a | a, st⟩ <;> first | (cases q; done) | skip
    obtain ⟨T, rfl, hst1⟩ := zSt_i hst
    exact lv_ineg hx hb hd (hk _ _ _ q _ _ _ _ _ _ _ _ _ hL ⟨by show _ = _; rw [Int32.ofInt_neg], hst1⟩ hR hpre hK hP hD hS hn hz)
  case i2l =>
    rcases st with _ | ⟨a | a | a, st⟩ <;> first | (cases q; done) | skip
    obtain ⟨T, rfl, hst1⟩ := zSt_i hst
    exact lv_i2l hx hb hd (zw_i2l a) (hk _ _ _ q _ _ _ _ _ _ _ _ _ hL ⟨rfl, hst1⟩ hR hpre hK hP hD hS hn hz)
  case l2i =>
    rcases st with _ | ⟨a | a | a, st⟩ <;> first | (cases q; done) | skip
    obtain ⟨T, rfl, hst1⟩ := zSt_l hst
    exact lv_l2i hx hb hd (zw_l2i a) (hk _ _ _ q _ _ _ _ _ _ _ _ _ hL ⟨rfl, hst1⟩ hR hpre hK hP hD hS hn hz)
  case ladd =>
    rcases st with _ | ⟨b | b | b, _ | ⟨a | a | a, st⟩⟩ <;> first | (cases q; done) | skip
    obtain ⟨T, rfl, hst1⟩ := zSt_l hst
    obtain ⟨T, rfl, hst2⟩ := zSt_l hst1
    exact lv_ladd hx hb hd (hk _ _ _ q _ _ _ _ _ _ _ _ _ hL ⟨by show _ = _; rw [Int64.ofInt_add], hst2⟩ hR hpre hK hP hD hS hn hz)
  case lsub =>
    rcases st with _ | ⟨b | b | b, _ | ⟨a | a | a, st⟩⟩ <;> first | (cases q; done) | skip
    obtain ⟨T, rfl, hst1⟩ := zSt_l hst
    obtain ⟨T, rfl, hst2⟩ := zSt_l hst1
    exact lv_lsub hx hb hd (hk _ _ _ q _ _ _ _ _ _ _ _ _ hL ⟨by show _ = _; rw [Int64.ofInt_sub], hst2⟩ hR hpre hK hP hD hS hn hz)
  case lmul =>
    rcases st with _ | ⟨b | b | b, _ | ⟨a | a | a, st⟩⟩ <;> first | (cases q; done) | skip
    obtain ⟨T, rfl, hst1⟩ := zSt_l hst
    obtain ⟨T, rfl, hst2⟩ := zSt_l hst1
    exact lv_lmul hx hb hd (hk _ _ _ q _ _ _ _ _ _ _ _ _ hL ⟨by show _ = _; rw [Int64.ofInt_mul], hst2⟩ hR hpre hK hP hD hS hn hz)
  case land =>
    rcases st with _ | ⟨b | b | b, _ | ⟨a | a | a, st⟩⟩ <;> first | (cases q; done) | skip
    obtain ⟨T, rfl, hst1⟩ := zSt_l hst
    obtain ⟨T, rfl, hst2⟩ := zSt_l hst1
    exact lv_land hx hb hd (hk _ _ _ q _ _ _ _ _ _ _ _ _ hL ⟨by show _ = _; unfold zandl; rw [Int64.ofInt_toInt], hst2⟩ hR hpre hK hP hD hS hn hz)
  case lor =>
    rcases st with _ | ⟨b | b | b, _ | ⟨a | a | a, st⟩⟩ <;> first | (cases q; done) | skip
    obtain ⟨T, rfl, hst1⟩ := zSt_l hst
    obtain ⟨T, rfl, hst2⟩ := zSt_l hst1
    exact lv_lor hx hb hd (hk _ _ _ q _ _ _ _ _ _ _ _ _ hL ⟨by show _ = _; unfold zorl; rw [Int64.ofInt_toInt], hst2⟩ hR hpre hK hP hD hS hn hz)
  case lneg =>
    rcases st with _ | ⟨a | a | a, st⟩ <;> first | (cases q; done) | skip
    obtain ⟨T, rfl, hst1⟩ := zSt_l hst
    exact lv_lneg hx hb hd (hk _ _ _ q _ _ _ _ _ _ _ _ _ hL ⟨by show _ = _; rw [Int64.ofInt_neg], hst1⟩ hR hpre hK hP hD hS hn hz)
  case ldiv =>
    rcases st with _ | ⟨b | b | b, _ | ⟨a | a | a, st⟩⟩ <;> first | (cases q; done) | skip
    obtain ⟨T, rfl, hst1⟩ := zSt_l hst
    obtain ⟨T, rfl, hst2⟩ := zSt_l hst1
    simp only [zS] at q
    split at q
    next => cases q
    next h0 => exact lv_ldiv hx hb hd (fun z => h0 ((zwl_eq0 b).mp z)) (hk _ _ _ q _ _ _ _ _ _ _ _ _ hL ⟨by show _ = _; rw [zwl_div], hst2⟩ hR hpre hK hP hD hS hn hz)
  case lrem =>
    rcases st with _ | ⟨b | b | b, _ | ⟨a | a | a, st⟩⟩ <;> first | (cases q; done) | skip
    obtain ⟨T, rfl, hst1⟩ := zSt_l hst
    obtain ⟨T, rfl, hst2⟩ := zSt_l hst1
    simp only [zS] at q
    split at q
    next => cases q
    next h0 => exact lv_lrem hx hb hd (fun z => h0 ((zwl_eq0 b).mp z)) (hk _ _ _ q _ _ _ _ _ _ _ _ _ hL ⟨by show _ = _; rw [zwl_mod], hst2⟩ hR hpre hK hP hD hS hn hz)
  case lshl =>
    rcases st with _ | ⟨b | b | b, _ | ⟨a | a | a, st⟩⟩ <;> first | (cases q; done) | skip
    obtain ⟨T, rfl, hst1⟩ := zSt_i hst
    obtain ⟨T, rfl, hst2⟩ := zSt_l hst1
    exact lv_lshl hx hb hd rfl (hk _ _ _ q _ _ _ _ _ _ _ _ _ hL ⟨by show _ = _; unfold zshll; rw [Int64.ofInt_toInt], hst2⟩ hR hpre hK hP hD hS hn hz)
  case lushr =>
    rcases st with _ | ⟨b | b | b, _ | ⟨a | a | a, st⟩⟩ <;> first | (cases q; done) | skip
    obtain ⟨T, rfl, hst1⟩ := zSt_i hst
    obtain ⟨T, rfl, hst2⟩ := zSt_l hst1
    exact lv_lushr hx hb hd rfl (hk _ _ _ q _ _ _ _ _ _ _ _ _ hL ⟨by show _ = _; unfold zushrl; rw [Int64.ofInt_toInt], hst2⟩ hR hpre hK hP hD hS hn hz)
  case lcmp =>
    rcases st with _ | ⟨b | b | b, _ | ⟨a | a | a, st⟩⟩ <;> first | (cases q; done) | skip
    obtain ⟨T, rfl, hst1⟩ := zSt_l hst
    obtain ⟨T, rfl, hst2⟩ := zSt_l hst1
    exact W.lcmp hx hb hd (hk _ _ _ q _ _ _ _ _ _ _ _ _ hL ⟨by show _ = _; rw [zwl_cmp], hst2⟩ hR hpre hK hP hD hS hn hz)
  case dup =>
    rcases st with _ | ⟨a | a | a, st⟩ <;> first | (cases q; done) | skip
    · obtain ⟨T, rfl, hst1⟩ := zSt_i hst
      exact lv_dup hx hb hd rfl (hk _ _ _ q _ _ _ _ _ _ _ _ _ hL ⟨rfl, rfl, hst1⟩ hR hpre hK hP hD hS hn hz)
    · obtain ⟨V, T, rfl, hv, hst1⟩ := zSt_r hst
      exact lv_dup hx hb hd (zcR_cat hv) (hk _ _ _ q _ _ _ _ _ _ _ _ _ hL ⟨hv, hv, hst1⟩ hR hpre hK hP hD hS hn hz)
  case dup2 =>
    rcases st with _ | ⟨b | b | b, _ | ⟨a | a | a, st⟩⟩ <;> first | (cases q; done) | skip
    obtain ⟨T, rfl, hst1⟩ := zSt_i hst
    obtain ⟨V, T, rfl, hv, hst2⟩ := zSt_r hst1
    exact lv_dup2_11 hx hb hd rfl (zcR_cat hv) (hk _ _ _ q _ _ _ _ _ _ _ _ _ hL ⟨rfl, hv, rfl, hv, hst2⟩ hR hpre hK hP hD hS hn hz)
  case pop =>
    rcases st with _ | ⟨a | a | a, st⟩ <;> first | (cases q; done) | skip
    · obtain ⟨T, rfl, hst1⟩ := zSt_i hst
      exact lv_pop hx hb hd rfl (hk _ _ _ q _ _ _ _ _ _ _ _ _ hL hst1 hR hpre hK hP hD hS hn hz)
    · obtain ⟨V, T, rfl, hv, hst1⟩ := zSt_r hst
      exact lv_pop hx hb hd (zcR_cat hv) (hk _ _ _ q _ _ _ _ _ _ _ _ _ hL hst1 hR hpre hK hP hD hS hn hz)
  case getfield i =>
    obtain ⟨ci, j, kd, rfl, T, N, hc, hj, hT1, hlink⟩ := ok
    have hcc := hcl ci _ _ _ hc
    have main : ∀ (r : Option Nat) (v : zV) (st' : List zV), st = .inr (.inr r) :: st' → zfd h r ci j = some v → zSim p l e R s m args below meth c Q nL D cl A ads0 n0 z0 (pc + 3) L (v :: st') h → W p l e R s m args below meth c H locs cells slots Q (F0 m pc ls sv) := by
      intro r v st' hst0 hv hkk
      subst hst0
      obtain ⟨p', c', rfl, hp, hci, hcj⟩ := zfd_some hv
      obtain ⟨V, sv', rfl, hV, hst1⟩ := zSt_r hst
      obtain ⟨a, ha, rfl⟩ := hV
      obtain ⟨fs, he, hfs⟩ := zRep_obj hR hp (by rw [hci]; exact hcc.2.2.2.2.2) ha
      rw [hci] at he
      obtain ⟨V2, g1, g2⟩ := zSt_get hfs hcj
      exact va_get hx hb hts hcc.1 hown hK hP p' he hc j hj (hts _ hlink) (fun x h9 => by rw [hT1] at h9; exact h9) g1 hd (hkk _ _ _ _ _ _ _ _ _ hL ⟨g2, hst1⟩ hR hpre hK hP hD hS hn hz)
    rcases kd with _ | _ | _ | kd <;> rcases st with _ | ⟨a | a | r, st⟩ <;> first | (cases q; done) | skip
    · simp only [zS, zgi] at q
      split at q
      next v hv => exact main r _ st rfl hv (hk _ _ _ q)
      next => cases q
    · simp only [zS, zgl] at q
      split at q
      next v hv => exact main r _ st rfl hv (hk _ _ _ q)
      next => cases q
    · simp only [zS, zgr] at q
      split at q
      next v hv => exact main r _ st rfl hv (hk _ _ _ q)
      next => cases q
  case putfield i =>
    obtain ⟨ci, j, kd, rfl, T, N, hc, hj, hT1, hlink, ⟨ty, hty, hkd⟩, hfin⟩ := ok
    obtain ⟨hcw, ⟨ty0, hty0⟩, hnm, -, -, hlt⟩ := hcl ci _ _ _ hc
    have main : ∀ (r : Option Nat) (v : zV) (st' : List zV), st = v :: .inr (.inr r) :: st' → (∀ V, zcR ads v V → narrow ty V = V ∧ fits ty V = true) → zpf h r ci j v (fun h => k L st' h) = some res → W p l e R s m args below meth c H locs cells slots Q (F0 m pc ls sv) := by
      intro r v st' hst0 hfit q1
      subst hst0
      obtain ⟨p', c', rfl, hp, hci, hlen, q2⟩ := zpf_some q1
      rcases sv with _ | ⟨V, sv⟩
      · exact hst.elim
      obtain ⟨hV0, hst0⟩ := hst
      obtain ⟨V2, sv', rfl, hV, hst1⟩ := zSt_r hst0
      obtain ⟨a, ha, rfl⟩ := hV
      obtain ⟨fs, he, hfs⟩ := zRep_obj hR hp (by rw [hci]; exact hlt) ha
      rw [hci] at he
      have hfs2 := zSt_len hfs
      obtain ⟨f1, f2⟩ := hfit V hV0
      have fin : ∀ (H1 : Heap) (locs1 : List Loc), va_P D cl (ws.set p' (a, .inr (ci, fs.set j V))) H1 → va_D A (ws.set p' (a, .inr (ci, fs.set j V))) → va_S A s.heap H1 locs1 → W p l e R s m args below meth c H1 locs1 cells slots Q (F0 m (pc + 3) ls sv') := fun H1 locs1 hP1 hD1 hS1 =>
        hk _ _ _ q2 _ _ _ _ _ _ _ _ _ hL hst1 (zRep_set hR ha (Or.inl ⟨by rw [hci]; exact hlt, fs.set j V, by rw [hci], zSt_set j hfs hV0⟩)) hpre hK hP1 hD1 hS1 (by rw [List.length_set]; exact hn) (by rw [zsz_set h p' c' _ hp (by simp)]; exact hz)
      by_cases hf0 : (T j).2.2.2 = false
      · exact va_put hx hb hts hcw ty0 hty0 hnm hown hK hP hD hS p' he hc j hj (hts _ hlink) (fun x h9 => by rw [hT1] at h9; exact h9) hf0 hty f1 f2 (by rw [hfs2]; exact hlen) hd fin
      · exact va_putF hx hb hts hcw ty0 hty0 hnm hown hK hP hD hS p' he hc j hj (hts _ hlink) (fun x h9 => by rw [hT1] at h9; exact h9) (by simpa using hf0) (hct (hfin.resolve_left hf0)) hT1 hty f1 f2 (by rw [hfs2]; exact hlen) hd fin
    rcases kd with _ | _ | _ | _ | kd <;> rcases st with _ | ⟨v | v | v, _ | ⟨a | a | r, st⟩⟩ <;> first | (cases q; done) | skip
    · cases hkd
      exact main r _ st rfl (fun V hV => by cases hV; exact ⟨rfl, rfl⟩) q
    · cases hkd
      exact main r _ st rfl (fun V hV => by cases hV; exact ⟨rfl, rfl⟩) q
    · exact main r _ st rfl (fun V hV => zfit_r hV hkd) q
    · cases hkd
      simp only [zS] at q
      split at q
      next hv => exact main r _ st rfl (fun V hV => by cases hV; exact zfit_b hv) q
      next => cases q
  case iaload =>
    rcases st with _ | ⟨i | i | i, _ | ⟨a | a | r, st⟩⟩ <;> first | (cases q; done) | skip
    simp only [zS, zai] at q
    split at q
    next v hv =>
      obtain ⟨T1, rfl, hst1⟩ := zSt_i hst
      obtain ⟨V, T2, rfl, hV, hst2⟩ := zSt_r hst1
      obtain ⟨h0, ⟨rfl, -, x0, hx0, hx1⟩ | ⟨p', c', rfl, hp, htag, hcj⟩⟩ := zar_some hv
      · cases hx1
        obtain ⟨a, ha, rfl⟩ := hV
        have hab : a = b := Option.some.inj (ha.symm.trans (hpre _ _ hb0))
        subst hab
        have hlt := (List.getElem?_eq_some_iff.mp hx0).1
        refine va_sld hx hb hX hbl hbA hS (zw_in h0 hlt) hd ?_
        refine hk _ _ _ q _ _ _ _ _ _ _ _ _ hL ⟨?_, hst2⟩ hR hpre hK hP hD hS hn hz
        show Value.int (zxf xs _) = _
        rw [zw_clamp]
        simp [zxf, List.getD, hx0]
      · obtain ⟨a, ha, rfl⟩ := hV
        obtain ⟨cA, f, he, ht, hf⟩ := zRep_int hR hp htag ha
        obtain ⟨t0, ht0⟩ := zty_mem ht
        obtain ⟨x1, e1, e2⟩ := hf _ _ hcj
        cases e1
        have hlt := (List.getElem?_eq_some_iff.mp hcj).1
        refine va_iald hx hb hK hP p' t0 he ht0 (zw_in h0 hlt) hd ?_
        refine hk _ _ _ q _ _ _ _ _ _ _ _ _ hL ⟨?_, hst2⟩ hR hpre hK hP hD hS hn hz
        show Value.int (f _) = _
        rw [zw_clamp, e2]
    next => cases q
  case laload =>
    rcases st with _ | ⟨i | i | i, _ | ⟨a | a | r, st⟩⟩ <;> first | (cases q; done) | skip
    simp only [zS, zal] at q
    split at q
    next v hv =>
      obtain ⟨T1, rfl, hst1⟩ := zSt_i hst
      obtain ⟨V, T2, rfl, hV, hst2⟩ := zSt_r hst1
      obtain ⟨h0, ⟨rfl, hbad, -⟩ | ⟨p', c', rfl, hp, htag, hcj⟩⟩ := zar_some hv
      · exact absurd hbad (by decide)
      · obtain ⟨a, ha, rfl⟩ := hV
        obtain ⟨cA, f, he, ht, hf⟩ := zRep_long hR hp htag ha
        obtain ⟨t0, ht0⟩ := zty_mem ht
        obtain ⟨x1, e1, e2⟩ := hf _ _ hcj
        cases e1
        have hlt := (List.getElem?_eq_some_iff.mp hcj).1
        refine va_lald hx hb hK hP p' t0 he ht0 (zw_in h0 hlt) hd ?_
        refine hk _ _ _ q _ _ _ _ _ _ _ _ _ hL ⟨?_, hst2⟩ hR hpre hK hP hD hS hn hz
        show Value.long (f _) = _
        rw [zw_clamp, e2]
    next => cases q
  case aaload =>
    obtain ⟨ci, rfl⟩ := ok
    rcases st with _ | ⟨i | i | i, _ | ⟨a | a | r, st⟩⟩ <;> first | (cases q; done) | skip
    simp only [zS, zaa] at q
    split at q
    next v hv =>
      obtain ⟨T1, rfl, hst1⟩ := zSt_i hst
      obtain ⟨V, T2, rfl, hV, hst2⟩ := zSt_r hst1
      obtain ⟨h0, ⟨rfl, hbad, -⟩ | ⟨p', c', rfl, hp, htag, hcj⟩⟩ := zar_some hv
      · omega
      · obtain ⟨a, ha, rfl⟩ := hV
        obtain ⟨cA, f, r, he, hr2, ht, hf⟩ := zRep_ref hR hp (by omega) ha
        obtain ⟨t0, ht0⟩ := zty_mem ht
        obtain ⟨x1, e1, e2⟩ := hf _ _ hcj
        cases e1
        have hlt := (List.getElem?_eq_some_iff.mp hcj).1
        refine va_aldq hx hb hK hP p' t0 he ht0 (zw_in h0 hlt) hd ?_
        refine hk _ _ _ q _ _ _ _ _ _ _ _ _ hL ⟨?_, hst2⟩ hR hpre hK hP hD hS hn hz
        rw [zw_clamp]
        exact e2
    next => cases q
  case iastore =>
    rcases st with _ | ⟨v | v | v, _ | ⟨i | i | i, _ | ⟨a | a | r, st⟩⟩⟩ <;> first | (cases q; done) | skip
    obtain ⟨p', c', rfl, hp, htag, h0, hlt, q⟩ := zst_some q
    obtain ⟨T1, rfl, hst1⟩ := zSt_i hst
    obtain ⟨T2, rfl, hst2⟩ := zSt_i hst1
    obtain ⟨V, T3, rfl, hV, hst3⟩ := zSt_r hst2
    obtain ⟨a, ha, rfl⟩ := hV
    obtain ⟨cA, f, he, ht, hf⟩ := zRep_int hR hp htag ha
    obtain ⟨t0, ht0⟩ := zty_mem ht
    refine va_iast hx hb hK hP hD hS p' t0 he ht0 (zw_in h0 hlt) hd (fun H1 locs1 hP1 hD1 hS1 => ?_)
    refine hk _ _ _ q _ _ _ _ _ _ _ _ _ hL hst3 (zRep_set hR ha (Or.inr (Or.inl ⟨htag, cA, _, by rw [List.length_set], ht, fun j w hw => ?_⟩))) hpre hK hP1 hD1 hS1 (by rw [List.length_set]; exact hn) (by rw [zsz_set h p' c' _ hp (by simp)]; exact hz)
    rw [zw_clamp]
    by_cases hj : j = (zw i).toNat
    · subst hj
      rw [List.getElem?_set_self hlt] at hw
      cases hw
      exact ⟨v, rfl, pk_us⟩
    · rw [List.getElem?_set_ne (Ne.symm hj)] at hw
      obtain ⟨x1, e1, e2⟩ := hf j w hw
      exact ⟨x1, e1, by rw [pk_un hj]; exact e2⟩
  case lastore =>
    rcases st with _ | ⟨v | v | v, _ | ⟨i | i | i, _ | ⟨a | a | r, st⟩⟩⟩ <;> first | (cases q; done) | skip
    obtain ⟨p', c', rfl, hp, htag, h0, hlt, q⟩ := zst_some q
    obtain ⟨T1, rfl, hst1⟩ := zSt_l hst
    obtain ⟨T2, rfl, hst2⟩ := zSt_i hst1
    obtain ⟨V, T3, rfl, hV, hst3⟩ := zSt_r hst2
    obtain ⟨a, ha, rfl⟩ := hV
    obtain ⟨cA, f, he, ht, hf⟩ := zRep_long hR hp htag ha
    obtain ⟨t0, ht0⟩ := zty_mem ht
    refine va_last hx hb hK hP hD hS p' t0 he ht0 (zw_in h0 hlt) hd (fun H1 locs1 hP1 hD1 hS1 => ?_)
    refine hk _ _ _ q _ _ _ _ _ _ _ _ _ hL hst3 (zRep_set hR ha (Or.inr (Or.inr (Or.inl ⟨htag, cA, _, by rw [List.length_set], ht, fun j w hw => ?_⟩)))) hpre hK hP1 hD1 hS1 (by rw [List.length_set]; exact hn) (by rw [zsz_set h p' c' _ hp (by simp)]; exact hz)
    rw [zw_clamp]
    by_cases hj : j = (zw i).toNat
    · subst hj
      rw [List.getElem?_set_self hlt] at hw
      cases hw
      exact ⟨v, rfl, pk_uLs⟩
    · rw [List.getElem?_set_ne (Ne.symm hj)] at hw
      obtain ⟨x1, e1, e2⟩ := hf j w hw
      exact ⟨x1, e1, by rw [pk_uLn hj]; exact e2⟩
  case aastore =>
    obtain ⟨ci, rfl⟩ := ok
    rcases st with _ | ⟨v | v | (_ | _ | v), _ | ⟨i | i | i, _ | ⟨a | a | r, st⟩⟩⟩ <;> first | (cases q; done) | skip
    simp only [zS] at q
    cases hv0 : h[v]? with
    | none => rw [hv0] at q; cases q
    | some cv0 =>
    rw [hv0] at q
    simp only at q
    split at q
    next hci =>
      obtain ⟨p', c', rfl, hp, htag, h0, hlt, q⟩ := zst_some q
      obtain ⟨V, T1, rfl, hV0, hst1⟩ := zSt_r hst
      obtain ⟨T2, rfl, hst2⟩ := zSt_i hst1
      obtain ⟨V, T3, rfl, hV, hst3⟩ := zSt_r hst2
      obtain ⟨a, ha, rfl⟩ := hV
      obtain ⟨av, hav, rfl⟩ := hV0
      obtain ⟨cA, f, r, he, hr2, ht, hf⟩ := zRep_ref hR hp (by omega) ha
      obtain ⟨t0, ht0⟩ := zty_mem ht
      rw [htag, show 102 + ci - 102 = ci by omega] at hr2
      obtain ⟨fs, hve, hfs⟩ := zRep_obj hR hv0 (by rw [hci]; exact (hcl ci r.1 r.2.1 r.2.2 hr2).2.2.2.2.2) hav
      rw [hci] at hve
      refine va_astq hx hb hK hP hD hS p' t0 v ci he ht0 hve hr2 (zw_in h0 hlt) hd (fun H1 locs1 hP1 hD1 hS1 => ?_)
      refine hk _ _ _ q _ _ _ _ _ _ _ _ _ hL hst3 (zRep_set hR ha (Or.inr (Or.inr (Or.inr ⟨by show 102 ≤ c'.1; omega, cA, _, r, by rw [List.length_set], by show cl[c'.1 - 102]? = _; rw [htag, show 102 + ci - 102 = ci by omega]; exact hr2, ht, fun j w hw => ?_⟩)))) hpre hK hP1 hD1 hS1 (by rw [List.length_set]; exact hn) (by rw [zsz_set h p' c' _ hp (by simp)]; exact hz)
      rw [zw_clamp]
      by_cases hj : j = (zw i).toNat
      · subst hj
        rw [List.getElem?_set_self hlt] at hw
        cases hw
        exact ⟨some (v + 1), rfl, av, hav, by simp [va_up, va_rf]⟩
      · rw [List.getElem?_set_ne (Ne.symm hj)] at hw
        obtain ⟨x1, e1, e2⟩ := hf j w hw
        exact ⟨x1, e1, by rw [show va_up f (zw i).toNat (some av) j = f j by simp [va_up, hj]]; exact e2⟩
    next => cases q
  case arraylength =>
    rcases st with _ | ⟨a | a | r, st⟩ <;> first | (cases q; done) | skip
    obtain ⟨V, T, rfl, hV, hst1⟩ := zSt_r hst
    have q : zln xs h r (fun v => k L (.inl v :: st) h) = some res := q
    rcases r with _ | _ | p'
    · cases q
    · obtain ⟨a, ha, rfl⟩ := hV
      have hab : a = b := Option.some.inj (ha.symm.trans (hpre _ _ hb0))
      subst hab
      refine va_slen hx hb hX hbl hbA hS hd ?_
      exact hk _ _ _ q _ _ _ _ _ _ _ _ _ hL ⟨by show _ = _; rw [zofNat], hst1⟩ hR hpre hK hP hD hS hn hz
    · unfold zln at q
      dsimp only at q
      cases hp : h[p']? with
      | none => rw [hp] at q; cases q
      | some c' =>
      rw [hp] at q
      dsimp only at q
      split at q
      next htag =>
        obtain ⟨a, ha, rfl⟩ := hV
        obtain ⟨cA, x, ty, he, ht, hlen⟩ := zRep_arr hR hp htag ha
        obtain ⟨t0, ht0⟩ := zty_mem ht
        refine va_alen hx hb hK hP p' t0 he ht0 (v := Int32.ofInt c'.2.length) (by rw [hlen, zofNat]) hd ?_
        exact hk _ _ _ q _ _ _ _ _ _ _ _ _ hL ⟨rfl, hst1⟩ hR hpre hK hP hD hS hn hz
      next => cases q
  case new i =>
    obtain ⟨ci, ks, rfl, C, T, N, hc, hks, hlink, hdef⟩ := ok
    obtain ⟨hcw, ⟨ty0, hty0⟩, hnm, hinst, hini, hlt⟩ := hcl ci _ _ _ hc
    have q : k L (.inr (.inr (some (h.length + 1))) :: st) (h ++ [(ci, ks.map fun t => match t with | 0 => .inl 0 | 1 => .inr (.inl 0) | _ => .inr (.inr none))]) = some res := q
    obtain ⟨r1, r2⟩ := hr _ _ _ q
    rw [List.length_append] at r1
    rw [zsz_app] at r2
    simp only [List.length_singleton, zsz, List.length_map] at r1 r2
    have hfs : ∀ j, j < N → defaultValue (ty0 j) = vp_V (ks.map zdfv) j := by
      intro j hj
      obtain ⟨kd, hkd⟩ : ∃ kd, ks[j]? = some kd := ⟨_, List.getElem?_eq_getElem (by omega)⟩
      obtain ⟨ty, h1, h2⟩ := hdef j kd hkd
      have h3 : ty0 j = ty := Option.some.inj ((hty0 j hj).symm.trans h1)
      rw [h3]
      have h4 : vp_V (ks.map zdfv) j = zdfv kd := by simp [vp_V, List.getD, hkd]
      rw [h4]
      rcases h2 with ⟨rfl, rfl | rfl⟩ | ⟨rfl, rfl⟩ | ⟨rfl, ⟨n, rfl⟩ | ⟨t, rfl⟩⟩ <;> rfl
    refine va_new hx hb hts hcw ty0 hty0 hown (hts _ hlink) (hts _ hinst) (hts _ hini) hK hP hD hS hA hc hfs (by omega) (by omega) hd (fun qa H1 hP1 hD1 hS1 => ?_)
    refine hk _ _ _ q _ _ _ _ _ _ _ _ _ (zLo_pre (zpre_app _ _) hL) ⟨⟨qa, by rw [← hR.2.1, List.getElem?_append_right (by omega)]; simp, rfl⟩, zSt_pre (zpre_app _ _) hst⟩ (zRep_app hR (fun _ z => z) (Or.inl ⟨hlt, _, rfl, ?_⟩)) (zpre_tr hpre (zpre_app _ _)) hK hP1 hD1 hS1 (by rw [List.length_append]; simp; omega) (by rw [zsz_app]; simp only [zsz, List.length_map]; omega)
    exact zdfv_ok ads ks
  case newarray t =>
    have main : ∀ (n : Int) (st' : List zV) (ty : FieldType) (tag : Nat) (v0 : zV) (a0 : Nat → vp_A), (∀ N', (a0 N').1 = N') → st = .inl n :: st' → newarray.typeOf t = ty → Cond.arrayClass ty ∈ Ts → componentBytes ty ≤ 8 → (∀ (N' : Nat) (cA : ClassId), vp_cell cA (a0 N') = arrV cA N' (fun _ => defaultValue ty)) → (∀ (ads : List Nat) (N' : Nat) (cA : ClassId) (tys : List (ClassId × FieldType)), zCe cl ads (tys ++ [(cA, ty)]) (tag, List.replicate N' v0) (.inl (cA, a0 N'))) → 0 ≤ zw n ∧ zw n ≤ 1000000 → k L (.inr (.inr (some (h.length + 1))) :: st') (h ++ [(tag, List.replicate (zw n).toNat v0)]) = some res → W p l e R s m args below meth c H locs cells slots Q (F0 m pc ls sv) := by
      intro n st' ty tag v0 a0 ha1 hst0 hty harr hcb ha0 hce hn0 q1
      subst hst0
      obtain ⟨T, rfl, hst1⟩ := zSt_i hst
      obtain ⟨r1, r2⟩ := hr _ _ _ q1
      rw [List.length_append] at r1
      rw [zsz_app] at r2
      simp only [List.length_singleton, zsz, List.length_replicate] at r1 r2
      refine va_newa hx hb (by rw [hty]; exact hts _ harr) hty hK hP hD hS hA (ha0 (zw n).toNat) (fun z => by have := (zw_lt0 n).mp z; omega) (zw_clamp n) ?_ (by omega) (by omega) hd (fun qa cA H1 hK1 hP1 hD1 hS1 => ?_)
      · have : (zw n).toNat * componentBytes ty ≤ 1000000 * 8 := Nat.mul_le_mul (by omega) hcb
        omega
      · exact hk _ _ _ q1 _ _ _ _ _ _ _ _ _ (zLo_pre (zpre_app _ _) hL) ⟨⟨qa, by rw [← hR.2.1, List.getElem?_append_right (by omega)]; simp, rfl⟩, zSt_pre (zpre_app _ _) hst1⟩ (zRep_app hR (fun _ z => List.mem_append_left _ z) (hce _ _ _ _)) (zpre_tr hpre (zpre_app _ _)) hK1 hP1 hD1 hS1 (by rw [List.length_append]; simp; omega) (by rw [zsz_app]; simp only [zsz, List.length_replicate]; omega)
    rcases ok with ⟨rfl, rfl, harr⟩ | ⟨rfl, rfl, harr⟩ <;> rcases st with _ | ⟨n | n | n, st⟩ <;> first | (cases q; done) | skip
    · simp only [zS] at q
      split at q
      next hn0 => exact main n st .int 100 (.inl 0) (fun N' => (N', .inl (fun _ => 0))) (fun _ => rfl) rfl rfl harr (by decide) (fun _ _ => rfl) (fun ads N' cA tys => Or.inr (Or.inl ⟨rfl, cA, fun _ => 0, by rw [List.length_replicate], by simp, fun j v hv => ⟨0, by simp [List.getElem?_replicate] at hv; exact hv.2.symm, rfl⟩⟩)) hn0 q
      next => cases q
    · simp only [zS] at q
      split at q
      next hn0 => exact main n st .long 101 (.inr (.inl 0)) (fun N' => (N', .inr (.inl (fun _ => 0)))) (fun _ => rfl) rfl rfl harr (by decide) (fun _ _ => rfl) (fun ads N' cA tys => Or.inr (Or.inr (Or.inl ⟨rfl, cA, fun _ => 0, by rw [List.length_replicate], by simp, fun j v hv => ⟨0, by simp [List.getElem?_replicate] at hv; exact hv.2.symm, rfl⟩⟩))) hn0 q
      next => cases q
  case anewarray i =>
    obtain ⟨ci, C, T, N, rfl, hc, hlink, hov⟩ := ok
    rcases st with _ | ⟨n | n | n, st⟩ <;> first | (cases q; done) | skip
    simp only [zS] at q
    split at q
    next hn0 =>
      obtain ⟨T1, rfl, hst1⟩ := zSt_i hst
      obtain ⟨r1, r2⟩ := hr _ _ _ q
      rw [List.length_append] at r1
      rw [zsz_app] at r2
      simp only [List.length_singleton, zsz, List.length_replicate] at r1 r2
      refine va_newq hx hb hown (hts _ hlink) (va_AO.of (hts _ hov)) hK hP hD hS hA (fun z => by have := (zw_lt0 n).mp z; omega) (zw_clamp n) (by omega) (by omega) (by omega) hd (fun qa cA H1 hK1 hP1 hD1 hS1 => ?_)
      refine hk _ _ _ q _ _ _ _ _ _ _ _ _ (zLo_pre (zpre_app _ _) hL) ⟨⟨qa, by rw [← hR.2.1, List.getElem?_append_right (by omega)]; simp, rfl⟩, zSt_pre (zpre_app _ _) hst1⟩ (zRep_app hR (fun _ z => List.mem_append_left _ z) (Or.inr (Or.inr (Or.inr ⟨by show 102 ≤ 102 + ci; omega, cA, fun _ => none, (C, T, N), by rw [List.length_replicate], by show cl[102 + ci - 102]? = _; rw [show 102 + ci - 102 = ci by omega]; exact hc, by simp, fun j v hv => ⟨none, by simp [List.getElem?_replicate] at hv; exact hv.2.symm, rfl⟩⟩)))) (zpre_tr hpre (zpre_app _ _)) hK1 hP1 hD1 hS1 (by rw [List.length_append]; simp; omega) (by rw [zsz_app]; simp only [zsz, List.length_replicate]; omega)
    next => cases q

  all_goals first
    | (cases q; done)
    | (exfalso; cases q; done)
end ZSIM
end
section
/-! ===== a whole reading is a run of the machine ===== -/
abbrev zM : Type := MethodName × ByteArray × Nat × Option FieldType × Nat × Nat
/-- words that a contract hands on beside the good ones: links of nest mates, arrays over a class -/
def zbad (w : Cond) : Prop := (∃ a i x h, w = .methodLinkNest a i x h) ∨ ∃ C, w = .arrayOver (.object C)
theorem zbad_warm {w : Cond} (h : zbad w) {s U : State} (hW : s.WarmedH U.vm) (hZ : va_Nw w s) : va_Nw w U := by
  rcases h with ⟨a, i, x, h, rfl⟩ | ⟨C, rfl⟩
  · exact va_Nw.warmM hW hZ
  · exact va_AO.moved hW.alike hZ
theorem zbad_same {w : Cond} (h : zbad w) {u U : State} (hvm : u.vm = U.vm) (hZ : va_Nw w u) : va_Nw w U := by
  rcases h with ⟨a, i, x, h, rfl⟩ | ⟨C, rfl⟩
  · exact va_Nw.same rfl hvm hZ
  · exact va_AO.moved (by rw [hvm]; exact Vm.Alike.refl _) hZ
theorem zbad_of {w : Cond} (h : zbad w) {args : Array Value} {s : State} (hZ : w.before args s = true) : va_Nw w s := by
  rcases h with ⟨a, i, x, h, rfl⟩ | ⟨C, rfl⟩
  · exact va_Nw.of rfl hZ
  · exact va_AO.of hZ
theorem zbad_use {w : Cond} (h : zbad w) {args : Array Value} {s : State} (hZ : va_Nw w s) : w.before args s = true := by
  rcases h with ⟨a, i, x, h, rfl⟩ | ⟨C, rfl⟩
  · exact va_Nw.use rfl hZ
  · exact va_AO.use hZ
def zTk (Ts : List Cond) : Prop := ∀ w ∈ Ts, goodWord w = true ∨ zbad w
/-- what is returned -/
def zRet (ads : List Nat) : Option zV → Option Value → Prop
  | none, rv => rv = none
  | some v, rv => ∃ V, rv = some V ∧ zcR ads v V
def zRI (I : Instr) (rt : Option FieldType) (rv : Option Value) : Prop :=
  (I = .ireturn ∧ ∃ v, rv = some (.int v) ∧ (rt = some .int ∨ (rt = some .boolean ∧ (v = 0 ∨ v = 1)))) ∨
  (I = .lreturn ∧ rt = some .long ∧ ∃ v, rv = some (.long v)) ∨
  (I = .areturn ∧ ∃ V, rv = some V ∧ (V = .null ∨ ∃ a, V = .ref a) ∧ ∃ t, rt = some t ∧ ((∃ n, t = .object n) ∨ ∃ t2, t = .array t2)) ∨
  (I = .return_ ∧ rt = none ∧ rv = none)
def zMth (Ts : List Cond) (own : String) (i : Nat) (y : MethodName) (cd : ByteArray) : Prop := Cond.methodLink own i y ∈ Ts ∧ Cond.static y ∈ Ts ∧ Cond.initialized "java/lang/Math" ∈ Ts ∧ Cond.code y cd 2 (some .int) ∈ Ts
/-- what the tables say of a call -/
def zCal (mt : Nat → Option zM) (Ts : List Cond) (fr lo : Nat) (q n mx : Nat) (y : MethodName) (rt : Option FieldType) : Prop := ∃ by' f2 l2, q ≠ 0 ∧ mt q = some (y, by', mx, rt, f2, l2) ∧ f2 + 1 ≤ fr ∧ 8 + (mx + 11) + l2 ≤ lo ∧ (parseMethodDescriptor y.desc).map (fun d => d.parameters.length) = some n
def zIOK (mt : Nat → Option zM) (cl : List vw_C) (Ts : List Cond) (own : String) (ctor : Bool) (nL : Nat) (rt : Option FieldType) (fr lo : Nat) (cc : ByteArray) (pc : Nat) (I : Instr) (x : List Nat) (c : Int) : Prop := match I with
  | .nop => ∃ mm, x = pc :: mm
  | .goto off => decode cc pc = .ok (.goto off, 3) ∧ ∃ t mm, x = t :: mm ∧ (pc : Int) + off = (t : Int)
  | .ifCond cd off => decode cc pc = .ok (.ifCond cd off, 3) ∧ ∃ t mm, x = t :: mm ∧ (pc : Int) + off = (t : Int)
  | .if_icmp cd off => decode cc pc = .ok (.if_icmp cd off, 3) ∧ ∃ t mm, x = t :: mm ∧ (pc : Int) + off = (t : Int)
  | .ifnull off => decode cc pc = .ok (.ifnull off, 3) ∧ ∃ t mm, x = t :: mm ∧ (pc : Int) + off = (t : Int)
  | .ifnonnull off => decode cc pc = .ok (.ifnonnull off, 3) ∧ ∃ t mm, x = t :: mm ∧ (pc : Int) + off = (t : Int)
  | .tableswitch d lo hi offs => ∃ len, decode cc pc = .ok (.tableswitch d lo hi offs, len) ∧ ∃ n dt rest, x = n :: dt :: rest ∧ (pc : Int) + d = (dt : Int) ∧ ∀ (j t : Nat), (rest.drop n)[j]? = some t → ∃ off, offs[j]? = some off ∧ (pc : Int) + off = (t : Int)
  | .ireturn => decode cc pc = .ok (.ireturn, 1) ∧ ((x = [0] ∧ rt = some .int) ∨ (x = [1] ∧ rt = some .boolean))
  | .lreturn => decode cc pc = .ok (.lreturn, 1) ∧ rt = some .long
  | .areturn => decode cc pc = .ok (.areturn, 1) ∧ ∃ t, rt = some t ∧ ((∃ n, t = .object n) ∨ ∃ t2, t = .array t2)
  | .return_ => decode cc pc = .ok (.return_, 1) ∧ rt = none
  | .invokevirtual i => decode cc pc = .ok (.invokevirtual i, 3) ∧ ∃ q n t mx ci y r2 T N, x = [q, n + 1, t, mx, ci] ∧ zCal mt Ts fr lo q n mx y r2 ∧ cl[ci]? = some (y.cls, T, N) ∧ Cond.methodLink own i y ∈ Ts ∧ Cond.instanceMethod y ∈ Ts ∧ Cond.selects y.cls y y ∈ Ts
  | .invokestatic i => decode cc pc = .ok (.invokestatic i, 3) ∧ ((x = [0] ∧ zMth Ts own i Lib.Math.max.name Lib.Math.max.code ∧ 1 ≤ fr ∧ 21 ≤ lo) ∨ (x = [1] ∧ zMth Ts own i Lib.Math.min.name Lib.Math.min.code ∧ 1 ≤ fr ∧ 21 ≤ lo) ∨ ∃ q n t mx y r2, x = [q, n, t, mx] ∧ zCal mt Ts fr lo q n mx y r2 ∧ (Cond.methodLink own i y ∈ Ts ∨ ∃ host, Cond.methodLinkNest own i y host ∈ Ts) ∧ Cond.static y ∈ Ts)
  | .invokespecial i => decode cc pc = .ok (.invokespecial i, 3) ∧ ((x = [] ∧ Cond.methodLink own i Lib.objectInit ∈ Ts ∧ Cond.instanceMethod Lib.objectInit ∈ Ts ∧ Cond.code Lib.objectInit ⟨#[0xb1]⟩ 1 none ∈ Ts ∧ 1 ≤ fr ∧ 20 ≤ lo) ∨ (∃ q n t mx ci y T N, x = [q, n + 1, t, mx, ci] ∧ zCal mt Ts fr lo q n mx y none ∧ cl[ci]? = some (y.cls, T, N) ∧ (Cond.methodLink own i y ∈ Ts ∨ ∃ host, Cond.methodLinkNest own i y host ∈ Ts) ∧ Cond.instanceMethod y ∈ Ts ∧ y.name = "<init>"))
  | I => zOK cl Ts own ctor nL cc pc I x c
def zBK (mt : Nat → Option zM) (cl : List vw_C) (Ts : List Cond) (own : String) (ctor : Bool) (nL : Nat) (rt : Option FieldType) (fr lo : Nat) (cc : ByteArray) : Nat → List zE → Prop
  | _, [] => True
  | pc, (I, x, c) :: t => zIOK mt cl Ts own ctor nL rt fr lo cc pc I x c ∧ zBK mt cl Ts own ctor nL rt fr lo cc (pc + zlen I) t
def zProg (mt : Nat → Option zM) (B : Nat → Nat → Option (List zE)) (cl : List vw_C) (Ts : List Cond) : Prop := zTk Ts ∧ zCl cl Ts ∧ ∀ (M : Nat) (y : MethodName) (by' : ByteArray) (mL : Nat) (rt : Option FieldType) (fr lo : Nat), mt M = some (y, by', mL, rt, fr, lo) → (y.cls ≠ "java/lang/invoke/MethodHandle" ∧ y.cls ≠ "java/lang/invoke/VarHandle") ∧ plainName y.cls = true ∧ (M ≠ 0 → Cond.code y by' mL rt ∈ Ts ∧ Cond.initialized y.cls ∈ Ts) ∧ ∀ (pc : Nat) (b : List zE), B M pc = some b → zBK mt cl Ts y.cls (y.name == "<init>") mL rt fr lo by' pc b
/-- a method's contract, out of a reading -/
def zPc (Ts : List Cond) (cl : List vw_C) (D : va_G) (xs : List Int) (b : Nat) (tys : List (ClassId × FieldType)) (ws : va_W) (sz : Nat) (avs : List Value) : Array Value → State → Prop := va_Pc avs (fun U => U.heap.size = sz ∧ va_P D cl ws U.heap ∧ va_K D cl tys U ∧ va_D (fun _ => True) ws ∧ va_X b xs.length (zxf xs) U U.heap ∧ b < sz ∧ ¬ va_A ws sz b ∧ ∀ w ∈ Ts, zbad w → va_Nw w U)
def zQc (cl : List vw_C) (D : va_G) (ads : List Nat) (ws : va_W) (sz : Nat) (r : zR) : Array Value → State → Outcome → State → Prop := fun _ st oc t =>
  (∃ rv ads' tys' ws', oc = .returned rv ∧ zRet ads' r.1 rv ∧ zRep cl ads' tys' ws' r.2 ∧ zpre ads ads' ∧ va_P D cl ws' t.heap ∧ va_K D cl tys' t ∧ va_D (va_A ws sz) ws') ∧ va_F (va_A ws sz) st t
def zMet (l : Launch) (cl : List vw_C) (Ts : List Cond) (xs : List Int) (y : MethodName) (by' : ByteArray) (mL : Nat) (rt : Option FieldType) (fr lo : Nat) (vs : List zV) (h : zH) (r : zR) : Prop :=
  ∀ (D : va_G) (ads : List Nat) (b : Nat) (tys : List (ClassId × FieldType)) (ws : va_W) (sz : Nat) (avs : List Value), ads[0]? = some b → zRep cl ads tys ws h → zSt ads vs avs → (zargs vs).length ≤ mL →
    Met l y (Cond.code y by' mL rt :: Ts.filter goodWord) { frames := fr, cells := r.2.length - h.length, slots := zsz r.2 - zsz h, locals := lo } (zPc Ts cl D xs b tys ws sz avs) (zQc cl D ads ws sz r) (r.2.length - h.length) (zsz r.2 - zsz h) (va_A ws sz)
theorem zPc_blind {Ts : List Cond} {cl : List vw_C} {D : va_G} {xs : List Int} {b : Nat} {tys : List (ClassId × FieldType)} {ws : va_W} {sz : Nat} {avs : List Value} : FrameBlind (zPc Ts cl D xs b tys ws sz avs) := by
  rintro a U g mk ⟨h1, h2, h3, h4, h5, h6, h7, h8, h9⟩
  exact ⟨h1, h2, h3, va_K.moved (u := U) (U := U.calling g mk a) (Vm.Alike.refl U.vm) h4, h5, va_X.moved (u := U) (U := U.calling g mk a) (Vm.Alike.refl U.vm) h6, h7, h8, fun w hw hb => zbad_same (u := U) (U := U.calling g mk a) hb rfl (h9 w hw hb)⟩
section ZRUN
variable {p : Program} {l : Launch} {e : Env} {R : Room} {s : State} {m : MethodId} {args : Array Value} {below : List Frame} {meth : Method} {c : Code} {Q : State → Prop}
variable {cc : ByteArray} {nL : Nat} {own : String} {D : va_G} {cl : List vw_C} {A : Nat → Prop} {xs : List Int} {ads0 : List Nat} {n0 z0 : Nat} {Ts : List Cond} {ctor : Bool} {rt0 : Option FieldType}
theorem zAfter {H : Heap} {locs : List Loc} {cells slots mc ms : Nat} {pc : Nat} {ls : Array Slot} {sv rest : List Value} {ads : List Nat} {ws : va_W} {r : zR} {avs : Array Value}
    (hr : va_Run p l e R s m args below meth c H locs cells slots mc ms (F0 m pc ls sv) rest (zQc cl D ads ws H.size r avs) (va_A ws H.size)) (hA : ∀ q, s.heap.size ≤ q → A q) (hS : va_S A s.heap H locs) (hD : va_D A ws)
    (kk : ∀ (rv : Option Value) (ads' : List Nat) (tys' : List (ClassId × FieldType)) (ws' : va_W) (H1 : Heap) (locs1 : List Loc), zRet ads' r.1 rv → zRep cl ads' tys' ws' r.2 → zpre ads ads' → va_K D cl tys' s → va_P D cl ws' H1 → va_D A ws' → va_S A s.heap H1 locs1 → W p l e R s m args below meth c H1 locs1 (cells + mc) (slots + ms) Q (F0 m (pc + 3) ls (rv.toList ++ rest))) : W p l e R s m args below meth c H locs cells slots Q (F0 m pc ls sv) := by
  intro T hT X
  obtain ⟨v, st₀, t, T', L, h0, X', hL, e1, e2, ⟨⟨rv, ads', tys', ws', hv, hrv, hR, hp, hP, hK, hD1⟩, hz, hk⟩, st⟩ := hr T hT X
  cases hv
  rw [h0] at hz hk
  have hf : ∀ q, va_A ws H.size q → A q := fun q hq => by
    rcases hq with ⟨k, ee, hq⟩ | hq
    · exact hD.2 k _ hq
    · exact hA q (Nat.le_trans hS.1 hq)
  obtain ⟨t2, a1, b1⟩ := kk v ads' tys' ws' T'.heap (locs ++ L) hrv hR hp (hK.moved (by rw [← e2]; exact X'.warmed.alike.symm)) (by rw [e1]; exact hP) (hD1.weaken (fun k q _ h => hf q.1 h))
    ⟨Nat.le_trans hS.1 (by rw [e1]; exact hz), fun q h1 h2 => by rw [e1, hk q (Nat.lt_of_lt_of_le h1 hS.1) (fun z => h2 (hf q z))]; exact hS.2.1 q h1 h2, fun q hq => by
      rcases List.mem_append.mp hq with h | h
      · exact hS.2.2 q h
      · exact hf _ (hL q h)⟩ T' rfl X'
  exact ⟨t2, st t2 a1, b1⟩
/-- what comes behind a call -/
theorem zY_sim {pc : Nat} {t : Nat} {o : Option zR} {L : zL} {st : List zV} {k : zL → List zV → zH → Option zR} {res : zR}
    (hk : ∀ L' st' h', k L' st' h' = some res → zSim p l e R s m args below meth c Q nL D cl A ads0 n0 z0 (pc + 3) L' st' h') (q : zY t o L st k = some res) :
    ∃ r1, o = some r1 ∧ (∃ st', k L st' r1.2 = some res) ∧ ∀ (ls : Array Slot) (rest : List Value) (rv : Option Value) (H : Heap) (locs : List Loc) (cells slots : Nat) (ads : List Nat) (tys : List (ClassId × FieldType)) (ws : va_W), zRet ads r1.1 rv → zLo ads nL L ls → zSt ads st rest → zRep cl ads tys ws r1.2 → zpre ads0 ads → va_K D cl tys s → va_P D cl ws H → va_D A ws → va_S A s.heap H locs → cells + n0 = r1.2.length → slots + z0 = zsz r1.2 → W p l e R s m args below meth c H locs cells slots Q (F0 m (pc + 3) ls (rv.toList ++ rest)) := by
  cases o with
  | none => rcases t with _ | _ | _ | _ | t <;> cases q
  | some r1 =>
    obtain ⟨v, h1⟩ := r1
    refine ⟨(v, h1), rfl, ?_⟩
    rcases t with _ | _ | _ | _ | t <;> rcases v with _ | v | v | v <;> simp only [zY, zcv, zci, zcl, zcr] at q <;> first
      | (cases q; done)
      | (refine ⟨⟨_, q⟩, fun ls rest rv H locs cells slots ads tys ws hrv hL hst hR hpre hK hP hD hS hn hz => ?_⟩
         cases hrv
         exact hk _ _ _ q _ _ _ _ _ _ _ _ _ hL hst hR hpre hK hP hD hS hn hz)
      | (refine ⟨⟨_, q⟩, fun ls rest rv H locs cells slots ads tys ws hrv hL hst hR hpre hK hP hD hS hn hz => ?_⟩
         obtain ⟨V, rfl, hV⟩ := hrv
         exact hk _ _ _ q _ _ _ _ _ _ _ _ _ hL ⟨hV, hst⟩ hR hpre hK hP hD hS hn hz)
/-- where a method ends -/
def zFin (p : Program) (l : Launch) (e : Env) (R : Room) (s : State) (m : MethodId) (args : Array Value) (below : List Frame) (meth : Method) (c : Code) (Q : State → Prop) (cc : ByteArray) (rt : Option FieldType) (D : va_G) (cl : List vw_C) (A : Nat → Prop) (ads0 : List Nat) (n0 z0 : Nat) (res : zR) : Prop :=
  ∀ (pc : Nat) (I : Instr) (ls : Array Slot) (rv : Option Value) (H : Heap) (locs : List Loc) (cells slots : Nat) (ads : List Nat) (tys : List (ClassId × FieldType)) (ws : va_W), decode cc pc = .ok (I, 1) → zRI I rt rv → zRet ads res.1 rv → zRep cl ads tys ws res.2 → zpre ads0 ads → va_K D cl tys s → va_P D cl ws H → va_D A ws → va_S A s.heap H locs → cells + n0 = res.2.length → slots + z0 = zsz res.2 → W p l e R s m args below meth c H locs cells slots Q (F0 m pc ls rv.toList)
theorem zPre_of {H : Heap} {locs : List Loc} {tys : List (ClassId × FieldType)} {ws : va_W} {b : Nat} {avs : List Value} (hts : ∀ w ∈ Ts, w.before args s = true) (hX : va_X b xs.length (zxf xs) s s.heap) (hbl : b < s.heap.size) (hbA : ¬ A b) (hA : ∀ q, s.heap.size ≤ q → A q) (hK : va_K D cl tys s) (hP : va_P D cl ws H) (hD : va_D A ws) (hS : va_S A s.heap H locs) (U : State) (hU : U.heap = H) (hW : s.WarmedH U.vm) : zPc Ts cl D xs b tys ws H.size avs avs.toArray U := by
  refine ⟨rfl, by rw [hU], by rw [hU]; exact hP, va_K.moved hW.alike hK, hD.weaken (fun _ _ _ _ => trivial), ?_, Nat.lt_of_lt_of_le hbl hS.1, ?_, fun w hw hb => zbad_warm hb hW (zbad_of hb (hts w hw))⟩
  · rw [hU]
    exact va_X.moved hW.alike (hX.kept (hS.2.1 b hbl hbA))
  · rintro (⟨k, ee, hq⟩ | hq)
    · exact hbA (hD.2 k _ hq)
    · exact absurd (Nat.lt_of_lt_of_le hbl hS.1) (by omega)
theorem zck_some {h : zH} {rr : Option Nat} {ci : Nat} {o : Option zR} {res : zR} (q : zck h rr ci o = some res) : ∃ p c, rr = some (p + 1) ∧ h[p]? = some c ∧ c.1 = ci ∧ o = some res := by
  rcases rr with _ | _ | p
  · cases q
  · cases q
  · unfold zck at q
    dsimp only at q
    cases hc : h[p]? with
    | none => rw [hc] at q; cases q
    | some c =>
      rw [hc] at q
      dsimp only at q
      split at q
      next he => exact ⟨p, c, rfl, hc, he, q⟩
      next => cases q
/-- the receiver under a call's arguments -/
theorem zRecv {ads : List Nat} {tys : List (ClassId × FieldType)} {ws : va_W} {st : List zV} {sv : List Value} {h : zH} {n p' : Nat} {c' : Nat × List zV} (hst : zSt ads st sv) (c1 : n + 1 ≤ st.length) (hR : zRep cl ads tys ws h) (e1 : zrcv (st.take (n + 1)).reverse = some (p' + 1)) (e2 : h[p']? = some c') (ht : c'.1 < 100) :
    ∃ a As fs, ads[p' + 1]? = some a ∧ zSt ads (st.take (n + 1)).reverse (.ref a :: As) ∧ zSt ads (st.drop (n + 1)) (sv.drop (n + 1)) ∧ sv = As.reverse ++ .ref a :: sv.drop (n + 1) ∧ As.length = n ∧ ws[p']? = some (a, .inr (c'.1, fs)) := by
  have hst1 : zSt ads (st.take (n + 1)).reverse (sv.take (n + 1)).reverse := zSt_rev (zSt_take (n + 1) hst).1
  have hst2 := (zSt_take (n + 1) hst).2
  have hlen : (sv.take (n + 1)).reverse.length = n + 1 := by rw [List.length_reverse, List.length_take, zSt_len hst]; omega
  have hsv : sv = (sv.take (n + 1)).reverse.reverse ++ sv.drop (n + 1) := by rw [List.reverse_reverse, List.take_append_drop]
  generalize (st.take (n + 1)).reverse = vs at hst1 e1 ⊢
  generalize (sv.take (n + 1)).reverse = avs at hst1 hlen hsv
  rcases vs with _ | ⟨v, vs⟩
  · cases e1
  rcases avs with _ | ⟨V, As⟩
  · exact hst1.elim
  rcases v with v | v | v
  · cases e1
  · cases e1
  · cases e1
    obtain ⟨⟨a, ha, rfl⟩, h2⟩ := hst1
    obtain ⟨fs, he, -⟩ := zRep_obj hR e2 ht ha
    refine ⟨a, As, fs, ha, ⟨⟨a, ha, rfl⟩, h2⟩, hst2, ?_, by simpa using hlen, he⟩
    rw [List.reverse_cons, List.append_assoc] at hsv
    exact hsv
theorem zX_sim {mt : Nat → Option zM} {rec : Nat → Nat → zL → List zV → zH → Option zR} {fr lo : Nat} (hG : zTk Ts) (hMt : ∀ (q : Nat) (y : MethodName) (by' : ByteArray) (mL : Nat) (rt : Option FieldType) (fr lo : Nat), q ≠ 0 → mt q = some (y, by', mL, rt, fr, lo) → (y.cls ≠ "java/lang/invoke/MethodHandle" ∧ y.cls ≠ "java/lang/invoke/VarHandle") ∧ Cond.code y by' mL rt ∈ Ts ∧ Cond.initialized y.cls ∈ Ts)
    (hMet : ∀ (q : Nat) (y : MethodName) (by' : ByteArray) (mL : Nat) (rt : Option FieldType) (fr lo : Nat) (vs : List zV) (h : zH) (r : zR), mt q = some (y, by', mL, rt, fr, lo) → rec q 0 (zargs vs) [] h = some r → zMet l cl Ts xs y by' mL rt fr lo vs h r)
    (hgr : ∀ m pc L st h r, rec m pc L st h = some r → zge h r.2)
    (C0 : zCtx p s m args meth c cc nL own ctor cl A xs ads0 Ts) (hfr : fr ≤ R.frames) (hlo : lo ≤ R.locals) {pc : Nat} {I : Instr} {x : List Nat} {cv : Int} {L : zL} {st : List zV} {h : zH} {k : zL → List zV → zH → Option zR} {res : zR} (ok : zIOK mt cl Ts own ctor nL rt0 fr lo cc pc I x cv)
    (hI : (∃ i, I = .invokevirtual i) ∨ (∃ i, I = .invokestatic i ∧ x ≠ [0] ∧ x ≠ [1]) ∨ ∃ i, I = .invokespecial i ∧ x ≠ [])
    (hk : ∀ L' st' h', k L' st' h' = some res → zSim p l e R s m args below meth c Q nL D cl A ads0 n0 z0 (pc + 3) L' st' h') (hr : ∀ L' st' h', k L' st' h' = some res → h'.length ≤ R.cells + n0 ∧ zsz h' ≤ R.slots + z0)
    (q : zX rec x L st h k = some res) : zSim p l e R s m args below meth c Q nL D cl A ads0 n0 z0 pc L st h := by
  intro ls sv H locs cells slots ads tys ws hL hst hR hpre hK hP hD hS hn hz
  obtain ⟨hx, hb, hml, hts, hown, hA, hcl, hct, b, hb0, hX, hbl, hbA⟩ := C0
  have hb1 := hpre _ _ hb0
  -- the callee's words
  have words : ∀ (y : MethodName) (by' : ByteArray) (mL : Nat) (rt : Option FieldType), Cond.code y by' mL rt ∈ Ts → GoodIn Ts (Cond.code y by' mL rt :: Ts.filter goodWord) := fun y by' mL rt hc w hw => by
    rcases List.mem_cons.mp hw with rfl | hw
    · refine ⟨hc, (hG _ hc).elim good_of_word (fun hb => ?_)⟩
      rcases hb with ⟨a, i, x, h, hb⟩ | ⟨C, hb⟩ <;> cases hb
    · obtain ⟨h1, h2⟩ := List.mem_filter.mp hw
      exact ⟨h1, good_of_word h2⟩
  -- the run of a callee, and what comes behind it
  have go : ∀ (qm n t mx : Nat) (y : MethodName) (rt : Option FieldType) (rest : List Value) (avs : List Value), zSt ads (st.drop n) rest → zSt ads (st.take n).reverse avs → (zargs (st.take n).reverse).length ≤ mx →
      (∀ (by' : ByteArray) (f2 l2 : Nat) (r1 : zR), mt qm = some (y, by', mx, rt, f2, l2) → r1.2.length ≤ R.cells + n0 → zsz r1.2 ≤ R.slots + z0 → zge h r1.2 → zMet l cl Ts xs y by' mx rt f2 l2 (st.take n).reverse h r1 → va_Run p l e R s m args below meth c H locs cells slots (r1.2.length - h.length) (zsz r1.2 - zsz h) (F0 m pc ls sv) rest (zQc cl D ads ws H.size r1 avs.toArray) (va_A ws H.size)) →
      (∃ by' f2 l2, mt qm = some (y, by', mx, rt, f2, l2)) → zY t (rec qm 0 (zargs (st.take n).reverse) [] h) L (st.drop n) k = some res → W p l e R s m args below meth c H locs cells slots Q (F0 m pc ls sv) := by
    intro qm n t mx y rt rest avs hrest havs hlen run ⟨by', f2, l2, hm⟩ qy
    obtain ⟨r1, h1, ⟨st', h2⟩, h3⟩ := zY_sim hk qy
    obtain ⟨g1, g2⟩ := hr _ _ _ h2
    have hge := hgr _ _ _ _ _ _ h1
    have hM := hMet qm y by' mx rt f2 l2 (st.take n).reverse h r1 hm h1
    refine zAfter (run by' f2 l2 r1 hm g1 g2 hge hM) hA hS hD (fun rv ads' tys' ws' H1 locs1 hrv hR1 hp1 hK1 hP1 hD1 hS1 => ?_)
    exact h3 ls rest rv H1 locs1 _ _ ads' tys' ws' hrv (zLo_pre hp1 hL) (zSt_pre hp1 hrest) hR1 (zpre_tr hpre hp1) hK1 hP1 hD1 hS1 (by have := hge.1; omega) (by have := hge.2; omega)
  have cats : ∀ (n : Nat) (rest : List Value), zSt ads (st.drop n) rest → st.length ≤ n + 4 → (rest.map fun v => v.category).sum ≤ 8 := fun n rest h1 h2 => by
    have := zSt_cat h1
    rw [List.length_drop] at this
    omega
  rcases hI with ⟨i, rfl⟩ | ⟨i, rfl, hx1, hx2⟩ | ⟨i, rfl, hx0⟩
  · obtain ⟨hd, qm, n, t, mx, ci, y, r2, T, N, rfl, ⟨by', f2, l2, hq0, hm, hf1, hl1, hnp⟩, hc, w1, w2, w3⟩ := ok
    obtain ⟨hy, hcode, hini⟩ := hMt qm y by' mx r2 f2 l2 hq0 hm
    simp only [zX] at q
    split at q
    next hcond =>
      obtain ⟨c1, c2, c3⟩ := hcond
      obtain ⟨p', c', e1, e2, e3, q⟩ := zck_some q
      obtain ⟨a, As, fs, ha, hst1, hst2, hsv, hAs, he⟩ := zRecv hst c1 hR e1 e2 (by rw [e3]; exact (hcl ci _ _ _ hc).2.2.2.2.2)
      rw [e3] at he
      refine go qm (n + 1) t mx y r2 (sv.drop (n + 1)) (.ref a :: As) hst2 hst1 c3 (fun by2 f3 l3 r1 hm2 g1 g2 hge hM => ?_) ⟨by', f2, l2, hm⟩ q
      cases hm.symm.trans hm2
      exact va_runV (As := As) (rest := sv.drop (n + 1)) ⟨hx, hb, hml, hown, hts⟩ (hM D ads b tys ws H.size (.ref a :: As) hb1 hR hst1 c3) (C := y.cls)
        ⟨callB_of n hts (words _ _ _ _ hcode) rfl rfl rfl (hts _ hini) (hts _ w1) ⟨hy.1, hy.2, hnp⟩ ⟨by show f2 + 1 ≤ _; omega, by show 8 + (mx + 11) + l2 ≤ _; omega⟩, hts _ w2, hts _ w3⟩
        ⟨zPc_blind, va_recv hK hP hc he, zPre_of hts hX hbl hbA hA hK hP hD hS⟩ rfl hAs hL.1 hsv (lv_room (cats _ _ hst2 c2)) hd ⟨by have := hge.1; omega, by have := hge.2; omega⟩
    next => cases q
  · obtain ⟨hd, ⟨hbad, -⟩ | ⟨hbad, -⟩ | ⟨qm, n, t, mx, y, r2, rfl, ⟨by', f2, l2, hq0, hm, hf1, hl1, hnp⟩, w1, w2⟩⟩ := ok
    · exact absurd hbad hx1
    · exact absurd hbad hx2
    obtain ⟨hy, hcode, hini⟩ := hMt qm y by' mx r2 f2 l2 hq0 hm
    simp only [zX] at q
    split at q
    next hcond =>
      obtain ⟨c1, c2, c3⟩ := hcond
      have hst1 : zSt ads (st.take n).reverse (sv.take n).reverse := zSt_rev (zSt_take n hst).1
      have hst2 := (zSt_take n hst).2
      have hAs : (sv.take n).reverse.length = n := by rw [List.length_reverse, List.length_take, zSt_len hst]; omega
      refine go qm n t mx y r2 (sv.drop n) (sv.take n).reverse hst2 hst1 c3 (fun by2 f3 l3 r1 hm2 g1 g2 hge hM => ?_) ⟨by', f2, l2, hm⟩ q
      cases hm.symm.trans hm2
      have hsv : sv = (sv.take n).reverse.reverse ++ sv.drop n := by rw [List.reverse_reverse, List.take_append_drop]
      rcases w1 with w1 | ⟨host, w1⟩
      · exact va_runS (As := (sv.take n).reverse) (rest := sv.drop n) ⟨hx, hb, hml, hown, hts⟩ (hM D ads b tys ws H.size _ hb1 hR hst1 c3)
          ⟨callB_of n hts (words _ _ _ _ hcode) rfl rfl rfl (hts _ hini) (hts _ w1) ⟨hy.1, hy.2, hnp⟩ ⟨by show f2 + 1 ≤ _; omega, by show 8 + (mx + 11) + l2 ≤ _; omega⟩, hts _ w2⟩
          ⟨zPc_blind, zPre_of hts hX hbl hbA hA hK hP hD hS⟩ rfl hAs hL.1 hsv (lv_room (cats _ _ hst2 c2)) hd ⟨by have := hge.1; omega, by have := hge.2; omega⟩
      · exact va_runSN (As := (sv.take n).reverse) (rest := sv.drop n) ⟨hx, hb, hml, hown, hts⟩ (hM D ads b tys ws H.size _ hb1 hR hst1 c3)
          ⟨va_cnB n hts (words _ _ _ _ hcode) rfl rfl rfl (va_Nw.of rfl (hts _ w1)) (hts _ hini) ⟨hy.1, hy.2, hnp⟩ ⟨by show f2 + 1 ≤ _; omega, by show 8 + (mx + 11) + l2 ≤ _; omega⟩, hts _ w2, trivial⟩
          ⟨zPc_blind, zPre_of hts hX hbl hbA hA hK hP hD hS⟩ rfl hAs hL.1 hsv (lv_room (cats _ _ hst2 c2)) hd ⟨by have := hge.1; omega, by have := hge.2; omega⟩
    next => cases q
  · obtain ⟨hd, ⟨hbad, -⟩ | ⟨qm, n, t, mx, ci, y, T, N, rfl, ⟨by', f2, l2, hq0, hm, hf1, hl1, hnp⟩, hc, w1, w2, w3⟩⟩ := ok
    · exact absurd hbad hx0
    obtain ⟨hy, hcode, hini⟩ := hMt qm y by' mx none f2 l2 hq0 hm
    simp only [zX] at q
    split at q
    next hcond =>
      obtain ⟨c1, c2, c3⟩ := hcond
      obtain ⟨p', c', e1, e2, e3, q⟩ := zck_some q
      obtain ⟨a, As, fs, ha, hst1, hst2, hsv, hAs, he⟩ := zRecv hst c1 hR e1 e2 (by rw [e3]; exact (hcl ci _ _ _ hc).2.2.2.2.2)
      refine go qm (n + 1) t mx y none (sv.drop (n + 1)) (.ref a :: As) hst2 hst1 c3 (fun by2 f3 l3 r1 hm2 g1 g2 hge hM => ?_) ⟨by', f2, l2, hm⟩ q
      cases hm.symm.trans hm2
      rcases w1 with w1 | ⟨host, w1⟩
      · exact va_runI (As := As) (rest := sv.drop (n + 1)) ⟨hx, hb, hml, hown, hts⟩ (hM D ads b tys ws H.size (.ref a :: As) hb1 hR hst1 c3)
          (cwI n hts (words _ _ _ _ hcode) rfl rfl rfl (hts _ hini) (hts _ w1) (hts _ w2) w3 ⟨hy.1, hy.2, hnp⟩ ⟨by show f2 + 1 ≤ _; omega, by show 8 + (mx + 11) + l2 ≤ _; omega⟩)
          ⟨zPc_blind, zPre_of hts hX hbl hbA hA hK hP hD hS⟩ rfl hAs hL.1 hsv (lv_room (cats _ _ hst2 c2)) hd ⟨by have := hge.1; omega, by have := hge.2; omega⟩
      · exact va_runIN (As := As) (rest := sv.drop (n + 1)) ⟨hx, hb, hml, hown, hts⟩ (hM D ads b tys ws H.size (.ref a :: As) hb1 hR hst1 c3)
          ⟨va_cnB n hts (words _ _ _ _ hcode) rfl rfl rfl (va_Nw.of rfl (hts _ w1)) (hts _ hini) ⟨hy.1, hy.2, hnp⟩ ⟨by show f2 + 1 ≤ _; omega, by show 8 + (mx + 11) + l2 ≤ _; omega⟩, w3, hts _ w2⟩
          ⟨zPc_blind, zPre_of hts hX hbl hbA hA hK hP hD hS⟩ rfl hAs hL.1 hsv (lv_room (cats _ _ hst2 c2)) hd ⟨by have := hge.1; omega, by have := hge.2; omega⟩
    next => cases q
theorem zJ_sim {rec : Nat → zL → List zV → zH → Option zR} {res : zR} (hJ : ∀ pc L st h, rec pc L st h = some res → zSim p l e R s m args below meth c Q nL D cl A ads0 n0 z0 pc L st h) {t : Nat} {mm : List Nat} {L : zL} {st : List zV} {h : zH} (q : zJ rec (t :: mm) L st h = some res) : zSim p l e R s m args below meth c Q nL D cl A ads0 n0 z0 t L st h := by
  intro ls sv H locs cells slots ads tys ws hL hst hR hpre hK hP hD hS hn hz
  exact hJ _ _ _ _ q _ _ _ _ _ _ _ _ _ (zLo_keep hL mm) hst hR hpre hK hP hD hS hn hz
theorem zI_sim {mt : Nat → Option zM} {rec : Nat → Nat → zL → List zV → zH → Option zR} {M fr lo : Nat} (hG : zTk Ts) (hMt : ∀ (q : Nat) (y : MethodName) (by' : ByteArray) (mL : Nat) (rt : Option FieldType) (fr lo : Nat), q ≠ 0 → mt q = some (y, by', mL, rt, fr, lo) → (y.cls ≠ "java/lang/invoke/MethodHandle" ∧ y.cls ≠ "java/lang/invoke/VarHandle") ∧ Cond.code y by' mL rt ∈ Ts ∧ Cond.initialized y.cls ∈ Ts)
    (hMet : ∀ (q : Nat) (y : MethodName) (by' : ByteArray) (mL : Nat) (rt : Option FieldType) (fr lo : Nat) (vs : List zV) (h : zH) (r : zR), mt q = some (y, by', mL, rt, fr, lo) → rec q 0 (zargs vs) [] h = some r → zMet l cl Ts xs y by' mL rt fr lo vs h r)
    (hgr : ∀ m pc L st h r, rec m pc L st h = some r → zge h r.2)
    (C0 : zCtx p s m args meth c cc nL own ctor cl A xs ads0 Ts) (hfr : fr ≤ R.frames) (hlo : lo ≤ R.locals) {res : zR} (hJ : ∀ pc L st h, rec M pc L st h = some res → zSim p l e R s m args below meth c Q nL D cl A ads0 n0 z0 pc L st h) (hF : zFin p l e R s m args below meth c Q cc rt0 D cl A ads0 n0 z0 res)
    {pc : Nat} {I : Instr} {x : List Nat} {cv : Int} {L : zL} {st : List zV} {h : zH} {k : zL → List zV → zH → Option zR} (ok : zIOK mt cl Ts own ctor nL rt0 fr lo cc pc I x cv)
    (hk : ∀ L' st' h', k L' st' h' = some res → zSim p l e R s m args below meth c Q nL D cl A ads0 n0 z0 (pc + zlen I) L' st' h') (hr : ∀ L' st' h', k L' st' h' = some res → h'.length ≤ R.cells + n0 ∧ zsz h' ≤ R.slots + z0)
    (q : zI xs rec M I x cv L st h k = some res) : zSim p l e R s m args below meth c Q nL D cl A ads0 n0 z0 pc L st h := by
  obtain ⟨J, hJ0⟩ : ∃ J, J = I := ⟨I, rfl⟩
  cases I
  case nop =>
    obtain ⟨mm, rfl⟩ := ok
    exact zJ_sim hJ q
  case goto off =>
    obtain ⟨hd, t, mm, rfl, ht⟩ := ok
    obtain ⟨hx, hb, -⟩ := C0
    intro ls sv H locs cells slots ads tys ws hL hst hR hpre hK hP hD hS hn hz
    exact lv_goto hx hb hd ht (zJ_sim hJ q _ _ _ _ _ _ _ _ _ hL hst hR hpre hK hP hD hS hn hz)
  case ifCond cnd off =>
    obtain ⟨hd, t, mm, rfl, ht⟩ := ok
    obtain ⟨hx, hb, -⟩ := C0
    intro ls sv H locs cells slots ads tys ws hL hst hR hpre hK hP hD hS hn hz
    cases cnd <;> rcases st with _ | ⟨a | a | a, st⟩ <;> first | (cases q; done) | skip
    all_goals
      obtain ⟨T1, rfl, hst1⟩ := zSt_i hst
      simp only [zI] at q
    · exact lv_if_eq hx hb hd ht (fun z => by rw [if_pos ((zw_eq0 a).mp z)] at q; exact zJ_sim hJ q _ _ _ _ _ _ _ _ _ hL hst1 hR hpre hK hP hD hS hn hz) (fun z => by rw [if_neg (fun z' => z ((zw_eq0 a).mpr z'))] at q; exact hk _ _ _ q _ _ _ _ _ _ _ _ _ hL hst1 hR hpre hK hP hD hS hn hz)
    · exact lv_if_ne hx hb hd ht (fun z => by rw [if_pos (fun z' => z ((zw_eq0 a).mpr z'))] at q; exact zJ_sim hJ q _ _ _ _ _ _ _ _ _ hL hst1 hR hpre hK hP hD hS hn hz) (fun z => by rw [if_neg (fun z' => z' ((zw_eq0 a).mp z))] at q; exact hk _ _ _ q _ _ _ _ _ _ _ _ _ hL hst1 hR hpre hK hP hD hS hn hz)
    · exact lv_if_lt hx hb hd ht (fun z => by rw [if_pos ((zw_lt0 a).mp z)] at q; exact zJ_sim hJ q _ _ _ _ _ _ _ _ _ hL hst1 hR hpre hK hP hD hS hn hz) (fun z => by rw [if_neg (fun z' => z ((zw_lt0 a).mpr z'))] at q; exact hk _ _ _ q _ _ _ _ _ _ _ _ _ hL hst1 hR hpre hK hP hD hS hn hz)
    · exact lv_if_ge hx hb hd ht (fun z => by rw [if_pos ((zw_ge0 a).mp z)] at q; exact zJ_sim hJ q _ _ _ _ _ _ _ _ _ hL hst1 hR hpre hK hP hD hS hn hz) (fun z => by rw [if_neg (fun z' => z ((zw_ge0 a).mpr z'))] at q; exact hk _ _ _ q _ _ _ _ _ _ _ _ _ hL hst1 hR hpre hK hP hD hS hn hz)
    · exact lv_if_gt hx hb hd ht (fun z => by rw [if_pos ((zw_gt0 a).mp z)] at q; exact zJ_sim hJ q _ _ _ _ _ _ _ _ _ hL hst1 hR hpre hK hP hD hS hn hz) (fun z => by rw [if_neg (fun z' => z ((zw_gt0 a).mpr z'))] at q; exact hk _ _ _ q _ _ _ _ _ _ _ _ _ hL hst1 hR hpre hK hP hD hS hn hz)
    · exact lv_if_le hx hb hd ht (fun z => by rw [if_pos ((zw_le0 a).mp z)] at q; exact zJ_sim hJ q _ _ _ _ _ _ _ _ _ hL hst1 hR hpre hK hP hD hS hn hz) (fun z => by rw [if_neg (fun z' => z ((zw_le0 a).mpr z'))] at q; exact hk _ _ _ q _ _ _ _ _ _ _ _ _ hL hst1 hR hpre hK hP hD hS hn hz)
  case if_icmp cnd off =>
    obtain ⟨hd, t, mm, rfl, ht⟩ := ok
    obtain ⟨hx, hb, -⟩ := C0
    intro ls sv H locs cells slots ads tys ws hL hst hR hpre hK hP hD hS hn hz
    cases cnd <;> rcases st with _ | ⟨b | b | b, _ | ⟨a | a | a, st⟩⟩ <;> first | (cases q; done) | skip
    all_goals
      obtain ⟨T1, rfl, hst1⟩ := zSt_i hst
      obtain ⟨T2, rfl, hst2⟩ := zSt_i hst1
      simp only [zI] at q
    · exact lv_icmp_eq hx hb hd ht (fun z => by rw [if_pos ((zw_eq a b).mp z)] at q; exact zJ_sim hJ q _ _ _ _ _ _ _ _ _ hL hst2 hR hpre hK hP hD hS hn hz) (fun z => by rw [if_neg (fun z' => z ((zw_eq a b).mpr z'))] at q; exact hk _ _ _ q _ _ _ _ _ _ _ _ _ hL hst2 hR hpre hK hP hD hS hn hz)
    · exact lv_icmp_ne hx hb hd ht (fun z => by rw [if_pos (fun z' => z ((zw_eq a b).mpr z'))] at q; exact zJ_sim hJ q _ _ _ _ _ _ _ _ _ hL hst2 hR hpre hK hP hD hS hn hz) (fun z => by rw [if_neg (fun z' => z' ((zw_eq a b).mp z))] at q; exact hk _ _ _ q _ _ _ _ _ _ _ _ _ hL hst2 hR hpre hK hP hD hS hn hz)
    · exact lv_icmp_lt hx hb hd ht (fun z => by rw [if_pos ((zw_lt a b).mp z)] at q; exact zJ_sim hJ q _ _ _ _ _ _ _ _ _ hL hst2 hR hpre hK hP hD hS hn hz) (fun z => by rw [if_neg (fun z' => z ((zw_lt a b).mpr z'))] at q; exact hk _ _ _ q _ _ _ _ _ _ _ _ _ hL hst2 hR hpre hK hP hD hS hn hz)
    · exact lv_icmp_ge hx hb hd ht (fun z => by rw [if_pos ((zw_le b a).mp z)] at q; exact zJ_sim hJ q _ _ _ _ _ _ _ _ _ hL hst2 hR hpre hK hP hD hS hn hz) (fun z => by rw [if_neg (fun z' => z ((zw_le b a).mpr z'))] at q; exact hk _ _ _ q _ _ _ _ _ _ _ _ _ hL hst2 hR hpre hK hP hD hS hn hz)
    · exact lv_icmp_gt hx hb hd ht (fun z => by rw [if_pos ((zw_lt b a).mp z)] at q; exact zJ_sim hJ q _ _ _ _ _ _ _ _ _ hL hst2 hR hpre hK hP hD hS hn hz) (fun z => by rw [if_neg (fun z' => z ((zw_lt b a).mpr z'))] at q; exact hk _ _ _ q _ _ _ _ _ _ _ _ _ hL hst2 hR hpre hK hP hD hS hn hz)
    · exact lv_icmp_le hx hb hd ht (fun z => by rw [if_pos ((zw_le a b).mp z)] at q; exact zJ_sim hJ q _ _ _ _ _ _ _ _ _ hL hst2 hR hpre hK hP hD hS hn hz) (fun z => by rw [if_neg (fun z' => z ((zw_le a b).mpr z'))] at q; exact hk _ _ _ q _ _ _ _ _ _ _ _ _ hL hst2 hR hpre hK hP hD hS hn hz)
  case ifnull off =>
    obtain ⟨hd, t, mm, rfl, ht⟩ := ok
    obtain ⟨hx, hb, -⟩ := C0
    intro ls sv H locs cells slots ads tys ws hL hst hR hpre hK hP hD hS hn hz
    rcases st with _ | ⟨a | a | (_ | a), st⟩ <;> first | (cases q; done) | skip
    · obtain ⟨V, T1, rfl, hV, hst1⟩ := zSt_r hst
      cases hV
      exact lv_ifnullN hx hb hd ht (zJ_sim hJ q _ _ _ _ _ _ _ _ _ hL hst1 hR hpre hK hP hD hS hn hz)
    · obtain ⟨V, T1, rfl, hV, hst1⟩ := zSt_r hst
      obtain ⟨a1, -, rfl⟩ := hV
      exact lv_ifnull hx hb hd (hk _ _ _ q _ _ _ _ _ _ _ _ _ hL hst1 hR hpre hK hP hD hS hn hz)
  case ifnonnull off =>
    obtain ⟨hd, t, mm, rfl, ht⟩ := ok
    obtain ⟨hx, hb, -⟩ := C0
    intro ls sv H locs cells slots ads tys ws hL hst hR hpre hK hP hD hS hn hz
    rcases st with _ | ⟨a | a | (_ | a), st⟩ <;> first | (cases q; done) | skip
    · obtain ⟨V, T1, rfl, hV, hst1⟩ := zSt_r hst
      cases hV
      exact lv_ifnonnullN hx hb hd (hk _ _ _ q _ _ _ _ _ _ _ _ _ hL hst1 hR hpre hK hP hD hS hn hz)
    · obtain ⟨V, T1, rfl, hV, hst1⟩ := zSt_r hst
      obtain ⟨a1, -, rfl⟩ := hV
      exact lv_ifnonnull hx hb hd ht (zJ_sim hJ q _ _ _ _ _ _ _ _ _ hL hst1 hR hpre hK hP hD hS hn hz)
  case tableswitch d2 lo2 hi2 offs =>
    obtain ⟨len, hd, n, dt, rest, rfl, hdt, htg⟩ := ok
    obtain ⟨hx, hb, -⟩ := C0
    intro ls sv H locs cells slots ads tys ws hL hst hR hpre hK hP hD hS hn hz
    rcases st with _ | ⟨a | a | a, st⟩ <;> first | (cases q; done) | skip
    obtain ⟨T1, rfl, hst1⟩ := zSt_i hst
    simp only [zI] at q
    split at q
    next hc => exact lv_tableOut hx hb hd (by rw [zw_toInt]; exact hc) hdt (hJ _ _ _ _ q _ _ _ _ _ _ _ _ _ (zLo_keep hL _) hst1 hR hpre hK hP hD hS hn hz)
    next hc =>
      cases htt : (rest.drop n)[(zw a - lo2).toNat]? with
      | none => rw [htt] at q; cases q
      | some t =>
        rw [htt] at q
        obtain ⟨off, ho1, ho2⟩ := htg _ _ htt
        exact lv_tableIn hx hb hd (by rw [zw_toInt]; omega) (by rw [zw_toInt]; omega) (by rw [zw_toInt]; exact ho1) ho2 (hJ _ _ _ _ q _ _ _ _ _ _ _ _ _ (zLo_keep hL _) hst1 hR hpre hK hP hD hS hn hz)
  case ireturn =>
    obtain ⟨hd, ⟨rfl, hrt⟩ | ⟨rfl, hrt⟩⟩ := ok
    · intro ls sv H locs cells slots ads tys ws hL hst hR hpre hK hP hD hS hn hz
      rcases st with _ | ⟨a | a | a, _ | ⟨b, st⟩⟩ <;> first | (cases q; done) | skip
      cases q
      obtain ⟨T1, rfl, hst1⟩ := zSt_i hst
      rcases T1 with _ | ⟨V, T1⟩
      · exact hF pc _ ls (some (.int (Int32.ofInt a))) H locs cells slots ads tys ws hd (Or.inl ⟨rfl, _, rfl, Or.inl hrt⟩) ⟨_, rfl, rfl⟩ hR hpre hK hP hD hS hn hz
      · exact hst1.elim
    · intro ls sv H locs cells slots ads tys ws hL hst hR hpre hK hP hD hS hn hz
      rcases st with _ | ⟨a | a | a, _ | ⟨b, st⟩⟩ <;> first | (cases q; done) | skip
      simp only [zI] at q
      split at q
      next h01 =>
        cases q
        obtain ⟨T1, rfl, hst1⟩ := zSt_i hst
        rcases T1 with _ | ⟨V, T1⟩
        · exact hF pc _ ls (some (.int (Int32.ofInt a))) H locs cells slots ads tys ws hd (Or.inl ⟨rfl, _, rfl, Or.inr ⟨hrt, by rcases h01 with rfl | rfl; exact Or.inl rfl; exact Or.inr rfl⟩⟩) ⟨_, rfl, rfl⟩ hR hpre hK hP hD hS hn hz
        · exact hst1.elim
      next => cases q
  case lreturn =>
    obtain ⟨hd, hrt⟩ := ok
    intro ls sv H locs cells slots ads tys ws hL hst hR hpre hK hP hD hS hn hz
    rcases st with _ | ⟨a | a | a, _ | ⟨b, st⟩⟩ <;> first | (cases q; done) | skip
    cases q
    obtain ⟨T1, rfl, hst1⟩ := zSt_l hst
    rcases T1 with _ | ⟨V, T1⟩
    · exact hF pc _ ls (some (.long (Int64.ofInt a))) H locs cells slots ads tys ws hd (Or.inr (Or.inl ⟨rfl, hrt, _, rfl⟩)) ⟨_, rfl, rfl⟩ hR hpre hK hP hD hS hn hz
    · exact hst1.elim
  case areturn =>
    obtain ⟨hd, t, hrt, hkt⟩ := ok
    intro ls sv H locs cells slots ads tys ws hL hst hR hpre hK hP hD hS hn hz
    rcases st with _ | ⟨a | a | a, _ | ⟨b, st⟩⟩ <;> first | (cases q; done) | skip
    cases q
    obtain ⟨V, T1, rfl, hV, hst1⟩ := zSt_r hst
    rcases T1 with _ | ⟨V2, T1⟩
    · refine hF pc _ ls (some V) H locs cells slots ads tys ws hd (Or.inr (Or.inr (Or.inl ⟨rfl, V, rfl, ?_, t, hrt, hkt⟩))) ⟨_, rfl, hV⟩ hR hpre hK hP hD hS hn hz
      rcases a with _ | a
      · exact Or.inl hV
      · obtain ⟨a1, -, h2⟩ := hV
        exact Or.inr ⟨a1, h2⟩
    · exact hst1.elim
  case return_ =>
    obtain ⟨hd, hrt⟩ := ok
    intro ls sv H locs cells slots ads tys ws hL hst hR hpre hK hP hD hS hn hz
    rcases st with _ | ⟨a, st⟩ <;> first | (cases q; done) | skip
    cases q
    rcases sv with _ | ⟨V, sv⟩
    · exact hF pc _ ls none H locs cells slots ads tys ws hd (Or.inr (Or.inr (Or.inr ⟨rfl, hrt, rfl⟩))) rfl hR hpre hK hP hD hS hn hz
    · exact hst.elim
  case invokevirtual i => exact zX_sim hG hMt hMet hgr C0 hfr hlo ok (Or.inl ⟨i, rfl⟩) hk hr q
  case invokestatic i =>
    have main : ∀ (a b : Int) (st' : List zV) (v : Int), st = .inl b :: .inl a :: st' → st'.length ≤ 4 → k L (.inl v :: st') h = some res → 1 ≤ fr → 21 ≤ lo → (∀ (ls : Array Slot) (sv : List Value) (H : Heap) (locs : List Loc) (cells slots : Nat), ls.size = nL → (sv.map fun v => v.category).sum + 13 ≤ R.locals → 1 ≤ R.frames → cells ≤ R.cells → slots ≤ R.slots → W p l e R s m args below meth c H locs cells slots Q (F0 m (pc + 3) ls (.int (Int32.ofInt v) :: sv)) → W p l e R s m args below meth c H locs cells slots Q (F0 m pc ls (.int (Int32.ofInt b) :: .int (Int32.ofInt a) :: sv))) → zSim p l e R s m args below meth c Q nL D cl A ads0 n0 z0 pc L st h := by
      intro a b st' v hst0 hlen q' hf1 hl1 row ls sv H locs cells slots ads tys ws hL hst hR hpre hK hP hD hS hn hz
      subst hst0
      obtain ⟨T1, rfl, hst1⟩ := zSt_i hst
      obtain ⟨T2, rfl, hst2⟩ := zSt_i hst1
      obtain ⟨r1, r2⟩ := hr _ _ _ q'
      have hc := zSt_cat hst2
      exact row ls T2 H locs cells slots hL.1 (by omega) (by omega) (by omega) (by omega) (hk _ _ _ q' _ _ _ _ _ _ _ _ _ hL ⟨rfl, hst2⟩ hR hpre hK hP hD hS hn hz)
    by_cases hx1 : x = [0]
    · subst hx1
      obtain ⟨hd, ⟨-, ⟨w1, w2, w3, w4⟩, hf1, hl1⟩ | ⟨hbad, -⟩ | ⟨_, _, _, _, _, _, hbad, -⟩⟩ := ok
      · obtain ⟨hx, hb, hml, hts, hown, -⟩ := C0
        rcases st with _ | ⟨b | b | b, _ | ⟨a | a | a, st⟩⟩ <;> first | (cases q; done) | skip
        simp only [zI] at q
        split at q
        next hlen =>
          refine main a b st _ rfl hlen q hf1 hl1 (fun ls sv H locs cells slots z1 z2 z3 z4 z5 kk => va_mmax hx hb (by rw [hml]; exact z1.symm) hown (hts _ w1) (hts _ w2) (hts _ w3) (hts _ w4) z3 z2 z4 z5 hd ?_)
          by_cases hlt : zw a < zw b
          · rw [if_pos hlt] at kk
            rw [if_pos ((zw_lt a b).mpr hlt)]
            exact kk
          · rw [if_neg hlt] at kk
            rw [if_neg (fun z => hlt ((zw_lt a b).mp z))]
            exact kk
        next => cases q
      · cases hbad
      · cases hbad
    by_cases hx2 : x = [1]
    · subst hx2
      obtain ⟨hd, ⟨hbad, -⟩ | ⟨-, ⟨w1, w2, w3, w4⟩, hf1, hl1⟩ | ⟨_, _, _, _, _, _, hbad, -⟩⟩ := ok
      · cases hbad
      · obtain ⟨hx, hb, hml, hts, hown, -⟩ := C0
        rcases st with _ | ⟨b | b | b, _ | ⟨a | a | a, st⟩⟩ <;> first | (cases q; done) | skip
        simp only [zI] at q
        split at q
        next hlen =>
          refine main a b st _ rfl hlen q hf1 hl1 (fun ls sv H locs cells slots z1 z2 z3 z4 z5 kk => va_mmin hx hb (by rw [hml]; exact z1.symm) hown (hts _ w1) (hts _ w2) (hts _ w3) (hts _ w4) z3 z2 z4 z5 hd ?_)
          by_cases hlt : zw b < zw a
          · rw [if_pos hlt] at kk
            rw [if_pos ((zw_lt b a).mpr hlt)]
            exact kk
          · rw [if_neg hlt] at kk
            rw [if_neg (fun z => hlt ((zw_lt b a).mp z))]
            exact kk
        next => cases q
      · cases hbad
    have q' : zX rec x L st h k = some res := by
      rcases x with _ | ⟨_ | _ | t, _ | ⟨t2, x⟩⟩ <;> first | exact q | exact absurd rfl hx1 | exact absurd rfl hx2
    exact zX_sim hG hMt hMet hgr C0 hfr hlo ok (Or.inr (Or.inl ⟨i, rfl, hx1, hx2⟩)) hk hr q'
  case invokespecial i =>
    rcases x with _ | ⟨x1, x⟩
    · rcases st with _ | ⟨a | a | (_ | a), _ | ⟨b, st⟩⟩ <;> first | (cases q; done) | skip
      obtain ⟨hd, ⟨-, w1, w2, w3, hf1, hl1⟩ | ⟨_, _, _, _, _, _, _, _, hbad, -⟩⟩ := ok
      · obtain ⟨hx, hb, hml, hts, hown, -⟩ := C0
        intro ls sv H locs cells slots ads tys ws hL hst hR hpre hK hP hD hS hn hz
        obtain ⟨V, T1, rfl, hV, hst1⟩ := zSt_r hst
        obtain ⟨a1, -, rfl⟩ := hV
        rcases T1 with _ | ⟨V2, T1⟩
        · refine W.objInit hx hb hown (hts _ w1) (hts _ w2) (hts _ w3) rfl (by rw [hml]; exact hL.1) rfl hd (by omega) ?_ ?_
          · have := lv_room (m := m) (pc := pc) (ls := ls) (rest := [Value.ref a1]) (st := []) (by simp)
            simp only [List.map_nil, List.sum_nil] at this ⊢
            omega
          · exact hk _ _ _ q _ _ _ _ _ _ _ _ _ hL hst1 hR hpre hK hP hD hS hn hz
        · exact hst1.elim
      · cases hbad
    · exact zX_sim hG hMt hMet hgr C0 hfr hlo ok (Or.inr (Or.inr ⟨i, rfl, by simp⟩)) hk hr q
  all_goals exact zS_arith (x := x) (cv := cv) (L := L) (st := st) (h := h) (k := k) C0 ok hk hr q
end ZRUN
theorem zB_sim {p : Program} {l : Launch} {e : Env} {R : Room} {s : State} {m : MethodId} {args : Array Value} {below : List Frame} {meth : Method} {c : Code} {Q : State → Prop} {cc : ByteArray} {nL : Nat} {own : String} {D : va_G} {cl : List vw_C} {A : Nat → Prop} {xs : List Int} {ads0 : List Nat} {n0 z0 : Nat} {Ts : List Cond} {ctor : Bool} {rt0 : Option FieldType}
    {mt : Nat → Option zM} {rec : Nat → Nat → zL → List zV → zH → Option zR} {M fr lo : Nat} (hG : zTk Ts) (hMt : ∀ (q : Nat) (y : MethodName) (by' : ByteArray) (mL : Nat) (rt : Option FieldType) (fr lo : Nat), q ≠ 0 → mt q = some (y, by', mL, rt, fr, lo) → (y.cls ≠ "java/lang/invoke/MethodHandle" ∧ y.cls ≠ "java/lang/invoke/VarHandle") ∧ Cond.code y by' mL rt ∈ Ts ∧ Cond.initialized y.cls ∈ Ts)
    (hMet : ∀ (q : Nat) (y : MethodName) (by' : ByteArray) (mL : Nat) (rt : Option FieldType) (fr lo : Nat) (vs : List zV) (h : zH) (r : zR), mt q = some (y, by', mL, rt, fr, lo) → rec q 0 (zargs vs) [] h = some r → zMet l cl Ts xs y by' mL rt fr lo vs h r)
    (hgr : ∀ m pc L st h r, rec m pc L st h = some r → zge h r.2)
    (C0 : zCtx p s m args meth c cc nL own ctor cl A xs ads0 Ts) (hfr : fr ≤ R.frames) (hlo : lo ≤ R.locals) {res : zR} (hroom : res.2.length ≤ R.cells + n0 ∧ zsz res.2 ≤ R.slots + z0) (hJ : ∀ pc L st h, rec M pc L st h = some res → zSim p l e R s m args below meth c Q nL D cl A ads0 n0 z0 pc L st h) (hF : zFin p l e R s m args below meth c Q cc rt0 D cl A ads0 n0 z0 res) :
    ∀ (b : List zE) (pc : Nat) (L : zL) (st : List zV) (h : zH), zBK mt cl Ts own ctor nL rt0 fr lo cc pc b → zB xs rec M b L st h = some res → zSim p l e R s m args below meth c Q nL D cl A ads0 n0 z0 pc L st h
  | [], pc, L, st, h, _, q => by cases q
  | (I, x, cv) :: t, pc, L, st, h, ok, q => zI_sim hG hMt hMet hgr C0 hfr hlo hJ hF ok.1 (fun L' st' h' q' => zB_sim hG hMt hMet hgr C0 hfr hlo hroom hJ hF t _ L' st' h' ok.2 q') (fun L' st' h' q' => by
      have := zgrow_B xs rec hgr M res t L' st' h' q'
      exact ⟨Nat.le_trans this.1 hroom.1, Nat.le_trans this.2 hroom.2⟩) q
def zGood (mt : Nat → Option zM) (B : Nat → Nat → Option (List zE)) (cl : List vw_C) (Ts : List Cond) (xs : List Int) (n : Nat) : Prop := ∀ (M : Nat) (y : MethodName) (by' : ByteArray) (mL : Nat) (rt : Option FieldType) (fr lo : Nat), mt M = some (y, by', mL, rt, fr, lo) →
  ∀ (p : Program) (l : Launch) (e : Env) (R : Room) (s : State) (m : MethodId) (args : Array Value) (below : List Frame) (meth : Method) (c : Code) (Q : State → Prop) (D : va_G) (A : Nat → Prop) (ads0 : List Nat) (n0 z0 : Nat) (res : zR), zCtx p s m args meth c by' mL y.cls (y.name == "<init>") cl A xs ads0 Ts → fr ≤ R.frames → lo ≤ R.locals → zFin p l e R s m args below meth c Q by' rt D cl A ads0 n0 z0 res → (res.2.length ≤ R.cells + n0 ∧ zsz res.2 ≤ R.slots + z0) →
  ∀ (pc : Nat) (L : zL) (st : List zV) (h : zH), zrun B xs n M pc L st h = some res → zSim p l e R s m args below meth c Q mL D cl A ads0 n0 z0 pc L st h
theorem zargs_lg {ads : List Nat} : ∀ {vs : List zV} {avs : List Value}, zSt ads vs avs → (lg_sl avs).length = (zargs vs).length
  | [], [], _ => rfl
  | .inl x :: t, V :: T, h => by
    have h1 := zargs_lg h.2
    have h2 := zcR_cat h.1
    simp [lg_sl, h2, zcat, zargs] at h1 ⊢
    exact h1
  | .inr (.inl x) :: t, V :: T, h => by
    have h1 := zargs_lg h.2
    have h2 := zcR_cat h.1
    simp [lg_sl, h2, zcat, zargs] at h1 ⊢
    omega
  | .inr (.inr x) :: t, V :: T, h => by
    have h1 := zargs_lg h.2
    have h2 := zcR_cat h.1
    simp [lg_sl, h2, zcat, zargs] at h1 ⊢
    exact h1
  | [], _ :: _, h => h.elim
  | _ :: _, [], h => h.elim
theorem zargs_lv {ads : List Nat} : ∀ (vs : List zV) (avs : List Value) (k : Nat), zSt ads vs avs → ∀ (i : Nat) (v : zV), (zargs vs)[i]? = some (some v) → ∃ V, (k + i, V) ∈ lv_args k avs ∧ zcR ads v V
  | [], [], k, _, i, v, h => by simp [zargs] at h
  | [], _ :: _, k, hh, i, v, h => hh.elim
  | _ :: _, [], k, hh, i, v, h => hh.elim
  | w :: t, V :: T, k, hh, i, v, h => by
    have h2 := zcR_cat hh.1
    rcases w with w | w | w
    · rcases i with _ | i
      · simp [zargs] at h
        subst h
        exact ⟨V, by simp [lv_args], hh.1⟩
      · simp [zargs] at h
        obtain ⟨V2, e1, e2⟩ := zargs_lv t T (k + 1) hh.2 i v h
        exact ⟨V2, by simp [lv_args, h2, zcat]; rw [show k + (i + 1) = k + 1 + i by omega]; exact e1, e2⟩
    · rcases i with _ | _ | i
      · simp [zargs] at h
        subst h
        exact ⟨V, by simp [lv_args], hh.1⟩
      · simp [zargs] at h
      · simp [zargs] at h
        obtain ⟨V2, e1, e2⟩ := zargs_lv t T (k + 2) hh.2 i v h
        exact ⟨V2, by simp [lv_args, h2, zcat]; rw [show k + (i + 1 + 1) = k + 2 + i by omega]; exact e1, e2⟩
    · rcases i with _ | i
      · simp [zargs] at h
        subst h
        exact ⟨V, by simp [lv_args], hh.1⟩
      · simp [zargs] at h
        obtain ⟨V2, e1, e2⟩ := zargs_lv t T (k + 1) hh.2 i v h
        exact ⟨V2, by simp [lv_args, h2, zcat]; rw [show k + (i + 1) = k + 1 + i by omega]; exact e1, e2⟩
theorem zMet_of {mt : Nat → Option zM} {B : Nat → Nat → Option (List zE)} {cl : List vw_C} {Ts : List Cond} {xs : List Int} (hW : zProg mt B cl Ts) {n : Nat} (ih : zGood mt B cl Ts xs n) (l : Launch) (M : Nat) (y : MethodName) (by' : ByteArray) (mL : Nat) (rt : Option FieldType) (fr lo : Nat) (vs : List zV) (h : zH) (r : zR) (hm : mt M = some (y, by', mL, rt, fr, lo)) (q : zrun B xs n M 0 (zargs vs) [] h = some r) : zMet l cl Ts xs y by' mL rt fr lo vs h r := by
  intro D ads b tys ws sz avs hb0 hR hvs hlen
  obtain ⟨hG, hcl, hW3⟩ := hW
  obtain ⟨hy, hplain, -, -⟩ := hW3 M y by' mL rt fr lo hm
  have hge := zgrow_run B xs n M 0 _ _ _ _ q
  refine Met.ofW (cc := by') (maxL := mL) (ret := rt) hplain rfl ?_
  intro p e s m args below meth c s₁ Bd hml hv
  obtain ⟨rfl, hsz, hP, hK, hD0, hX, hbl, hbA, hbw⟩ := hv
  have hx := Bd.exec
  have hb := Bd.bytes
  have hr := Bd.returns
  have hts : ∀ w ∈ Ts, w.before avs.toArray s = true := fun w hw => by
    rcases hG w hw with hg | hg
    · exact atoms_spec (ws := Cond.code y by' mL rt :: Ts.filter goodWord) Bd.pre w (List.mem_cons_of_mem _ (List.mem_filter.mpr ⟨hw, hg⟩))
    · exact zbad_use hg (hbw w hw hg)
  have hown : s.vm.findClass y.cls = some m.cls := findClass_of_methodNamed Bd.named
  have hlocks := Bd.notSynchronized
  have hin : (y.name == "<init>") = true → meth.name = "<init>" := fun hh => by
    rw [(name_of_methodNamed Bd.named Bd.method).1]
    exact eq_of_beq hh
  subst hsz
  have hD := hD0.self (sz := s.heap.size)
  have hA : ∀ q : Nat, s.heap.size ≤ q → va_A ws s.heap.size q := fun q h => Or.inr h
  rw [lg_entry_eq]
  have hl := lv_entry avs (n := mL) (by rw [zargs_lg hvs]; exact hlen)
  refine ih M y by' mL rt fr lo hm p l e _ s m avs.toArray below meth c _ D (va_A ws s.heap.size) ads h.length (zsz h) r ⟨hx, hb, hml, hts, hown, hA, hcl, hin, b, hb0, hX, hbl, hbA⟩ (Nat.le_refl _) (Nat.le_refl _) ?_ ⟨?_, ?_⟩ 0 (zargs vs) [] h q _ [] _ [] 0 0 ads tys ws ⟨hl.1, hl.2.1, fun i v hv => ?_⟩ trivial hR (zpre_rf _) hK hP hD va_S.rf (Nat.zero_add _) (Nat.zero_add _)
  · intro pc I ls rv H locs cells slots ads' tys' ws' hd hri hret hR' hpre' hK' hP' hD' hS' hn' hz'
    have e1 : cells = r.2.length - h.length := by omega
    have e2 : slots = zsz r.2 - zsz h := by omega
    subst e1
    subst e2
    have post : ∀ t : State, t.heap = H → s.WarmedH t.vm → zQc cl D ads ws s.heap.size r avs.toArray s (.returned rv) t := fun t ht hW => ⟨⟨rv, ads', tys', ws', rfl, hret, hR', hpre', by rw [ht]; exact hP', va_K.moved hW.alike hK', hD'⟩, hS'.F ht⟩
    rcases hri with ⟨rfl, v, rfl, hrt | ⟨hrt, hv⟩⟩ | ⟨rfl, hrt, v, rfl⟩ | ⟨rfl, V, rfl, hV, t, hrt, hkt⟩ | ⟨rfl, hrt, rfl⟩
    · exact W.iret hx hb (by rw [hr, hrt]) post hS'.2.2 hd hlocks
    · exact W.zret (ty := .boolean) hx hb (by rw [hr, hrt]) (by rcases hv with rfl | rfl <;> decide) post hS'.2.2 hd hlocks
    · exact W.lret hx hb (by rw [hr, hrt]) post hS'.2.2 hd hlocks
    · exact W.aret hx hb (by rw [hr, hrt]) hkt hV post hS'.2.2 hd hlocks
    · exact W.vret hx hb (by rw [hr, hrt]) post hS'.2.2 hd hlocks
  · show r.2.length ≤ (r.2.length - h.length) + h.length
    have := hge.1
    omega
  · show zsz r.2 ≤ (zsz r.2 - zsz h) + zsz h
    have := hge.2
    omega
  · obtain ⟨V, e1, e2⟩ := zargs_lv vs avs 0 hvs i v hv
    rw [Nat.zero_add] at e1
    exact ⟨V, hl.2.2 _ e1, e2⟩
theorem zGood_all {mt : Nat → Option zM} {B : Nat → Nat → Option (List zE)} {cl : List vw_C} {Ts : List Cond} {xs : List Int} (hW : zProg mt B cl Ts) : ∀ n, zGood mt B cl Ts xs n := by
  intro n
  induction n with
  | zero =>
    intro M y by' mL rt fr lo hm p l e R s m args below meth c Q D A ads0 n0 z0 res C0 hfr hlo hF hroom pc L st h q
    cases q
  | succ n ih =>
    intro M y by' mL rt fr lo hm p l e R s m args below meth c Q D A ads0 n0 z0 res C0 hfr hlo hF hroom pc L st h q
    rw [zrun] at q
    cases hb : B M pc with
    | none => rw [hb] at q; cases q
    | some b =>
      rw [hb] at q
      have hW3 := hW.2.2
      obtain ⟨-, -, -, hblk⟩ := hW3 M y by' mL rt fr lo hm
      refine zB_sim hW.1 (fun q y by' mL rt fr lo hq0 hq => ?_) (fun q y by' mL rt fr lo vs h r hq hrun => zMet_of hW ih l q y by' mL rt fr lo vs h r hq hrun) (zgrow_run B xs n) C0 hfr hlo hroom (fun pc L st h q' => ih M y by' mL rt fr lo hm p l e R s m args below meth c Q D A ads0 n0 z0 res C0 hfr hlo hF hroom pc L st h q') hF b pc L st h (hblk pc b hb) q
      obtain ⟨h1, -, h2, -⟩ := hW3 q y by' mL rt fr lo hq
      exact ⟨h1, h2 hq0⟩
end
section
/-! ===== the tables are right: what a program can check of them ===== -/
def zcpOK (mt : Nat → Option zM) (cl : List vw_C) (Ts : List Cond) (own : String) (idx : Nat) (e : List Nat) : Prop := match e with
  | [0, ci, j, k, fin] => ∃ (T : u_T) (N : Nat), cl[ci]? = some (own, T, N) ∧ j < N ∧ (T j).1 = own ∧ Cond.fieldLink own idx own (T j).2.1 (T j).2.2.1 ∈ Ts ∧ (∃ ty, parseFieldDescriptor (T j).2.2.1 = some ty ∧ zKd k ty) ∧ (fin = 0 → (T j).2.2.2 = false)
  | [1, q, n, mx, f2, l2, ci] => ∃ y by' rt T N, q ≠ 0 ∧ mt q = some (y, by', mx, rt, f2, l2) ∧ (parseMethodDescriptor y.desc).map (fun d => d.parameters.length) = some n ∧ cl[ci]? = some (y.cls, T, N) ∧ Cond.methodLink own idx y ∈ Ts ∧ Cond.instanceMethod y ∈ Ts ∧ Cond.selects y.cls y y ∈ Ts
  | [2, q, n, mx, f2, l2] => ∃ y by' rt, q ≠ 0 ∧ mt q = some (y, by', mx, rt, f2, l2) ∧ (parseMethodDescriptor y.desc).map (fun d => d.parameters.length) = some n ∧ (Cond.methodLink own idx y ∈ Ts ∨ ∃ host, Cond.methodLinkNest own idx y host ∈ Ts) ∧ Cond.static y ∈ Ts
  | [3, q, n, mx, f2, l2, ci] => ∃ y by' T N, q ≠ 0 ∧ mt q = some (y, by', mx, none, f2, l2) ∧ (parseMethodDescriptor y.desc).map (fun d => d.parameters.length) = some n ∧ cl[ci]? = some (y.cls, T, N) ∧ (Cond.methodLink own idx y ∈ Ts ∨ ∃ host, Cond.methodLinkNest own idx y host ∈ Ts) ∧ Cond.instanceMethod y ∈ Ts ∧ y.name = "<init>"
  | [4] => Cond.methodLink own idx Lib.objectInit ∈ Ts ∧ Cond.instanceMethod Lib.objectInit ∈ Ts ∧ Cond.code Lib.objectInit ⟨#[0xb1]⟩ 1 none ∈ Ts
  | 5 :: ci :: ks => zNw cl Ts own idx ci ks
  | [6, ci] => ∃ C T N, cl[ci]? = some (C, T, N) ∧ Cond.classLink own (idx - 100000) C ∈ Ts ∧ Cond.arrayOver (.object C) ∈ Ts
  | [7, sg, a] => Cond.constant own idx (Int32.ofInt (if sg = 0 then (a : Int) else -(a : Int))) ∈ Ts
  | [8, sg, a] => Cond.constantLong own idx (Int64.ofInt (if sg = 0 then (a : Int) else -(a : Int))) ∈ Ts
  | [9, w] => (w = 0 ∧ zMth Ts own idx Lib.Math.max.name Lib.Math.max.code) ∨ (w = 1 ∧ zMth Ts own idx Lib.Math.min.name Lib.Math.min.code)
  | _ => False
def zfnd (cp : List (Nat × List Nat)) (i : Nat) : List Nat := (cp.lookup i).getD []
def zdec (cc : ByteArray) (pc : Nat) (I : Instr) (n : Nat) : Bool := decide (decode cc pc = .ok (I, n))
/-- a jump's target -/
def zjmp (pc : Nat) (off : Int) (x : List Nat) : Bool := match x with
  | t :: _ => decide ((pc : Int) + off = (t : Int))
  | [] => false
def zck1 (cp : List (Nat × List Nat)) (ctor : Bool) (nL : Nat) (rt : Option FieldType) (fr lo : Nat) (cc : ByteArray) (pc : Nat) (I : Instr) (x : List Nat) (c : Int) : Bool := match I with
  | .nop => match x with | t :: _ => t == pc | [] => false
  | .goto off => zdec cc pc (.goto off) 3 && zjmp pc off x
  | .ifCond cd off => zdec cc pc (.ifCond cd off) 3 && zjmp pc off x
  | .if_icmp cd off => zdec cc pc (.if_icmp cd off) 3 && zjmp pc off x
  | .ifnull off => zdec cc pc (.ifnull off) 3 && zjmp pc off x
  | .ifnonnull off => zdec cc pc (.ifnonnull off) 3 && zjmp pc off x
  | .tableswitch d lo2 hi2 offs => zdec cc pc (.tableswitch d lo2 hi2 offs) c.toNat && (match x with
    | n :: dt :: rest => decide ((pc : Int) + d = (dt : Int)) && (offs.toList.map fun o => (pc : Int) + o) == ((rest.drop n).map fun (t : Nat) => (t : Int))
    | _ => false)
  | .ireturn => zdec cc pc .ireturn 1 && ((x == [0] && decide (rt = some .int)) || (x == [1] && decide (rt = some .boolean)))
  | .lreturn => zdec cc pc .lreturn 1 && decide (rt = some .long)
  | .areturn => zdec cc pc .areturn 1 && (match rt with | some (.object _) => true | some (.array _) => true | _ => false)
  | .return_ => zdec cc pc .return_ 1 && decide (rt = none)
  | .invokevirtual i => zdec cc pc (.invokevirtual i) 3 && (match zfnd cp i, x with | [1, q, n, mx, f2, l2, ci], [q', n', _, mx', ci'] => q == q' && n + 1 == n' && mx == mx' && ci == ci' && decide (f2 + 1 ≤ fr) && decide (8 + (mx + 11) + l2 ≤ lo) | _, _ => false)
  | .invokestatic i => zdec cc pc (.invokestatic i) 3 && (match zfnd cp i, x with | [2, q, n, mx, f2, l2], [q', n', _, mx'] => q == q' && n == n' && mx == mx' && decide (f2 + 1 ≤ fr) && decide (8 + (mx + 11) + l2 ≤ lo) | [9, w], [w'] => w == w' && decide (1 ≤ fr) && decide (21 ≤ lo) | _, _ => false)
  | .invokespecial i => zdec cc pc (.invokespecial i) 3 && (match zfnd cp i, x with | [4], [] => decide (1 ≤ fr) && decide (20 ≤ lo) | [3, q, n, mx, f2, l2, ci], [q', n', _, mx', ci'] => q == q' && n + 1 == n' && mx == mx' && ci == ci' && decide (f2 + 1 ≤ fr) && decide (8 + (mx + 11) + l2 ≤ lo) | _, _ => false)
  | .bipush n => zdec cc pc (.bipush n) 2 && decide (-128 ≤ n) && decide (n ≤ 127)
  | .sipush n => zdec cc pc (.sipush n) 3 && decide (-32768 ≤ n) && decide (n ≤ 32767)
  | .ldc i => zdec cc pc (.ldc i) 2 && (match zfnd cp i with | [7, sg, a] => decide (c = if sg = 0 then (a : Int) else -(a : Int)) | _ => false)
  | .ldc_w i => zdec cc pc (.ldc_w i) 3 && (match zfnd cp i with | [7, sg, a] => decide (c = if sg = 0 then (a : Int) else -(a : Int)) | _ => false)
  | .ldc2_w i => zdec cc pc (.ldc2_w i) 3 && (match zfnd cp i with | [8, sg, a] => decide (c = if sg = 0 then (a : Int) else -(a : Int)) | _ => false)
  | .istore i => zdec cc pc (.istore i) 2 && decide (i < nL)
  | .istore_n i => zdec cc pc (.istore_n i) 1 && decide ((i : Nat) < nL)
  | .astore i => zdec cc pc (.astore i) 2 && decide (i < nL)
  | .astore_n i => zdec cc pc (.astore_n i) 1 && decide ((i : Nat) < nL)
  | .lstore i => zdec cc pc (.lstore i) 2 && decide (i + 1 < nL)
  | .lstore_n i => zdec cc pc (.lstore_n i) 1 && decide ((i : Nat) + 1 < nL)
  | .getfield i => zdec cc pc (.getfield i) 3 && (match zfnd cp i, x with | [0, ci, j, _, _], [ci', j', _] => ci == ci' && j == j' | _, _ => false)
  | .putfield i => zdec cc pc (.putfield i) 3 && (match zfnd cp i, x with | [0, ci, j, k, fin], [ci', j', k'] => ci == ci' && j == j' && k == k' && (fin == 0 || ctor) | _, _ => false)
  | .new i => zdec cc pc (.new i) 3 && (match zfnd cp i with | 5 :: ks => ks == x | _ => false)
  | .newarray t => zdec cc pc (.newarray t) 2 && ((x == [0] && decide (t = .int)) || (x == [1] && decide (t = .long)))
  | .anewarray i => zdec cc pc (.anewarray i) 3 && (match zfnd cp (i + 100000) with | [6, ci] => x == [102 + ci] | _ => false)
  | .aaload => zdec cc pc .aaload 1 && (match x with | [t] => decide (102 ≤ t) | _ => false)
  | .aastore => zdec cc pc .aastore 1 && (match x with | [t, ci] => t == 102 + ci | _ => false)
  | I => zdec cc pc I (zlen I)
def zckB (cp : List (Nat × List Nat)) (ctor : Bool) (nL : Nat) (rt : Option FieldType) (fr lo : Nat) (cc : ByteArray) : Nat → List zE → Bool
  | _, [] => true
  | pc, (I, x, c) :: t => zck1 cp ctor nL rt fr lo cc pc I x c && zckB cp ctor nL rt fr lo cc (pc + zlen I) t
theorem zfnd_ok {mt : Nat → Option zM} {cl : List vw_C} {Ts : List Cond} {own : String} {cp : List (Nat × List Nat)} (hcp : ∀ i e, cp.lookup i = some e → zcpOK mt cl Ts own i e) {i n : Nat} {e : List Nat} (h : zfnd cp i = n :: e) : zcpOK mt cl Ts own i (n :: e) := by
  unfold zfnd at h
  cases hl : cp.lookup i with
  | none => rw [hl] at h; cases h
  | some e2 =>
    rw [hl] at h
    simp at h
    subst h
    exact hcp _ _ hl
theorem zdec_ok {cc : ByteArray} {pc n : Nat} {I : Instr} (h : zdec cc pc I n = true) : decode cc pc = .ok (I, n) := of_decide_eq_true h
theorem zjmp_ok {pc : Nat} {off : Int} {x : List Nat} (h : zjmp pc off x = true) : ∃ t mm, x = t :: mm ∧ (pc : Int) + off = (t : Int) := by
  rcases x with _ | ⟨t, x⟩
  · cases h
  · exact ⟨t, x, rfl, of_decide_eq_true h⟩
theorem zck1_ok {mt : Nat → Option zM} {cl : List vw_C} {Ts : List Cond} {own : String} {cp : List (Nat × List Nat)} (hcp : ∀ i e, cp.lookup i = some e → zcpOK mt cl Ts own i e) (hai : Cond.arrayClass .int ∈ Ts) (hal : Cond.arrayClass .long ∈ Ts) {ctor : Bool} {nL : Nat} {rt : Option FieldType} {fr lo : Nat} {cc : ByteArray} {pc : Nat} {I : Instr} {x : List Nat} {c : Int} (h : zck1 cp ctor nL rt fr lo cc pc I x c = true) : zIOK mt cl Ts own ctor nL rt fr lo cc pc I x c := by
  cases I
  case nop =>
    rcases x with _ | ⟨t, x⟩
    · cases h
    · have := eq_of_beq h
      subst this
      exact ⟨x, rfl⟩
  case goto off => simp only [zck1, Bool.and_eq_true] at h; exact ⟨zdec_ok h.1, zjmp_ok h.2⟩
  case ifCond cd off => simp only [zck1, Bool.and_eq_true] at h; exact ⟨zdec_ok h.1, zjmp_ok h.2⟩
  case if_icmp cd off => simp only [zck1, Bool.and_eq_true] at h; exact ⟨zdec_ok h.1, zjmp_ok h.2⟩
  case ifnull off => simp only [zck1, Bool.and_eq_true] at h; exact ⟨zdec_ok h.1, zjmp_ok h.2⟩
  case ifnonnull off => simp only [zck1, Bool.and_eq_true] at h; exact ⟨zdec_ok h.1, zjmp_ok h.2⟩
  case tableswitch d lo2 hi2 offs =>
    simp only [zck1, Bool.and_eq_true] at h
    obtain ⟨h1, h2⟩ := h
    rcases x with _ | ⟨n, _ | ⟨dt, rest⟩⟩
    · cases h2
    · cases h2
    · simp only [Bool.and_eq_true] at h2
      refine ⟨_, zdec_ok h1, n, dt, rest, rfl, of_decide_eq_true h2.1, fun j t ht => ?_⟩
      have h3 := eq_of_beq h2.2
      have h4 : ((rest.drop n).map fun (t : Nat) => (t : Int))[j]? = some (t : Int) := by rw [List.getElem?_map, ht]; rfl
      rw [← h3, List.getElem?_map] at h4
      cases ho : offs.toList[j]? with
      | none => rw [ho] at h4; cases h4
      | some o =>
        rw [ho] at h4
        refine ⟨o, by rw [← Array.getElem?_toList]; exact ho, ?_⟩
        simpa using h4
  case ireturn =>
    simp only [zck1, Bool.and_eq_true, Bool.or_eq_true, decide_eq_true_eq, beq_iff_eq] at h
    exact ⟨zdec_ok h.1, h.2⟩
  case lreturn =>
    simp only [zck1, Bool.and_eq_true, decide_eq_true_eq] at h
    exact ⟨zdec_ok h.1, h.2⟩
  case areturn =>
    simp only [zck1, Bool.and_eq_true] at h
    refine ⟨zdec_ok h.1, ?_⟩
    have h2 := h.2
    split at h2
    next n => exact ⟨_, rfl, Or.inl ⟨n, rfl⟩⟩
    next t => exact ⟨_, rfl, Or.inr ⟨t, rfl⟩⟩
    next => cases h2
  case return_ =>
    simp only [zck1, Bool.and_eq_true, decide_eq_true_eq] at h
    exact ⟨zdec_ok h.1, h.2⟩
  case invokevirtual i =>
    simp only [zck1, Bool.and_eq_true] at h
    refine ⟨zdec_ok h.1, ?_⟩
    have h2 := h.2
    split at h2
    next q n mx f2 l2 ci q' n' t mx' ci' he =>
      simp only [Bool.and_eq_true, decide_eq_true_eq, beq_iff_eq] at h2
      obtain ⟨⟨⟨⟨⟨rfl, rfl⟩, rfl⟩, rfl⟩, hf⟩, hl⟩ := h2
      obtain ⟨y, by', rt2, T, N, e0, e1, e2, e3, e4, e5, e6⟩ := zfnd_ok hcp he
      exact ⟨q, n, t, mx, ci, y, rt2, T, N, rfl, ⟨by', f2, l2, e0, e1, hf, hl, e2⟩, e3, e4, e5, e6⟩
    next => cases h2
  case invokestatic i =>
    simp only [zck1, Bool.and_eq_true] at h
    refine ⟨zdec_ok h.1, ?_⟩
    have h2 := h.2
    split at h2
    next q n mx f2 l2 q' n' t mx' he =>
      simp only [Bool.and_eq_true, decide_eq_true_eq, beq_iff_eq] at h2
      obtain ⟨⟨⟨⟨rfl, rfl⟩, rfl⟩, hf⟩, hl⟩ := h2
      obtain ⟨y, by', rt2, e0, e1, e2, e3, e4⟩ := zfnd_ok hcp he
      exact Or.inr (Or.inr ⟨q, n, t, mx, y, rt2, rfl, ⟨by', f2, l2, e0, e1, hf, hl, e2⟩, e3, e4⟩)
    next w w' he =>
      simp only [Bool.and_eq_true, decide_eq_true_eq, beq_iff_eq] at h2
      obtain ⟨⟨rfl, hf⟩, hl⟩ := h2
      rcases zfnd_ok hcp he with ⟨rfl, hm⟩ | ⟨rfl, hm⟩
      · exact Or.inl ⟨rfl, hm, hf, hl⟩
      · exact Or.inr (Or.inl ⟨rfl, hm, hf, hl⟩)
    next => cases h2
  case invokespecial i =>
    simp only [zck1, Bool.and_eq_true] at h
    refine ⟨zdec_ok h.1, ?_⟩
    have h2 := h.2
    split at h2
    next he =>
      simp only [Bool.and_eq_true, decide_eq_true_eq] at h2
      obtain ⟨e1, e2, e3⟩ := zfnd_ok hcp he
      exact Or.inl ⟨rfl, e1, e2, e3, h2.1, h2.2⟩
    next q n mx f2 l2 ci q' n' t mx' ci' he =>
      simp only [Bool.and_eq_true, decide_eq_true_eq, beq_iff_eq] at h2
      obtain ⟨⟨⟨⟨⟨rfl, rfl⟩, rfl⟩, rfl⟩, hf⟩, hl⟩ := h2
      obtain ⟨y, by', T, N, e0, e1, e2, e3, e4, e5, e6⟩ := zfnd_ok hcp he
      exact Or.inr ⟨q, n, t, mx, ci, y, T, N, rfl, ⟨by', f2, l2, e0, e1, hf, hl, e2⟩, e3, e4, e5, e6⟩
    next => cases h2
  case bipush n => simp only [zck1, Bool.and_eq_true, decide_eq_true_eq] at h; exact ⟨zdec_ok h.1.1, h.1.2, h.2⟩
  case sipush n => simp only [zck1, Bool.and_eq_true, decide_eq_true_eq] at h; exact ⟨zdec_ok h.1.1, h.1.2, h.2⟩
  case ldc i =>
    simp only [zck1, Bool.and_eq_true] at h
    refine ⟨zdec_ok h.1, ?_⟩
    have h2 := h.2
    split at h2
    next sg a he => rw [of_decide_eq_true h2]; exact zfnd_ok hcp he
    next => cases h2
  case ldc_w i =>
    simp only [zck1, Bool.and_eq_true] at h
    refine ⟨zdec_ok h.1, ?_⟩
    have h2 := h.2
    split at h2
    next sg a he => rw [of_decide_eq_true h2]; exact zfnd_ok hcp he
    next => cases h2
  case ldc2_w i =>
    simp only [zck1, Bool.and_eq_true] at h
    refine ⟨zdec_ok h.1, ?_⟩
    have h2 := h.2
    split at h2
    next sg a he => rw [of_decide_eq_true h2]; exact zfnd_ok hcp he
    next => cases h2
  case istore i => simp only [zck1, Bool.and_eq_true, decide_eq_true_eq] at h; exact ⟨zdec_ok h.1, h.2⟩
  case istore_n i => simp only [zck1, Bool.and_eq_true, decide_eq_true_eq] at h; exact ⟨zdec_ok h.1, h.2⟩
  case astore i => simp only [zck1, Bool.and_eq_true, decide_eq_true_eq] at h; exact ⟨zdec_ok h.1, h.2⟩
  case astore_n i => simp only [zck1, Bool.and_eq_true, decide_eq_true_eq] at h; exact ⟨zdec_ok h.1, h.2⟩
  case lstore i => simp only [zck1, Bool.and_eq_true, decide_eq_true_eq] at h; exact ⟨zdec_ok h.1, h.2⟩
  case lstore_n i => simp only [zck1, Bool.and_eq_true, decide_eq_true_eq] at h; exact ⟨zdec_ok h.1, h.2⟩
  case getfield i =>
    simp only [zck1, Bool.and_eq_true] at h
    refine ⟨zdec_ok h.1, ?_⟩
    have h2 := h.2
    split at h2
    next ci j k fin ci' j' k' he =>
      simp only [Bool.and_eq_true, beq_iff_eq] at h2
      obtain ⟨rfl, rfl⟩ := h2
      obtain ⟨T, N, e1, e2, e3, e4, -⟩ := zfnd_ok hcp he
      exact ⟨ci, j, k', rfl, T, N, e1, e2, e3, e4⟩
    next => cases h2
  case putfield i =>
    simp only [zck1, Bool.and_eq_true] at h
    refine ⟨zdec_ok h.1, ?_⟩
    have h2 := h.2
    split at h2
    next ci j k fin ci' j' k' he =>
      simp only [Bool.and_eq_true, Bool.or_eq_true, beq_iff_eq] at h2
      obtain ⟨⟨⟨rfl, rfl⟩, rfl⟩, hfin⟩ := h2
      obtain ⟨T, N, e1, e2, e3, e4, e5, e6⟩ := zfnd_ok hcp he
      exact ⟨ci, j, k, rfl, T, N, e1, e2, e3, e4, e5, hfin.imp e6 id⟩
    next => cases h2
  case new i =>
    simp only [zck1, Bool.and_eq_true] at h
    refine ⟨zdec_ok h.1, ?_⟩
    have h2 := h.2
    split at h2
    next ks he =>
      have := eq_of_beq h2
      subst this
      have h3 := zfnd_ok hcp he
      rcases ks with _ | ⟨ci, ks⟩
      · exact h3.elim
      · exact ⟨ci, ks, rfl, h3⟩
    next => cases h2
  case newarray t =>
    simp only [zck1, Bool.and_eq_true, Bool.or_eq_true, decide_eq_true_eq, beq_iff_eq] at h
    refine ⟨zdec_ok h.1, ?_⟩
    rcases h.2 with ⟨h1, h2⟩ | ⟨h1, h2⟩
    · exact Or.inl ⟨h1, h2, hai⟩
    · exact Or.inr ⟨h1, h2, hal⟩
  case anewarray i =>
    simp only [zck1, Bool.and_eq_true] at h
    refine ⟨zdec_ok h.1, ?_⟩
    have h2 := h.2
    split at h2
    next ci he =>
      obtain ⟨C, T, N, e1, e2, e3⟩ := zfnd_ok hcp he
      rw [Nat.add_sub_cancel] at e2
      exact ⟨ci, C, T, N, eq_of_beq h2, e1, e2, e3⟩
    next => cases h2
  case aaload =>
    simp only [zck1, Bool.and_eq_true] at h
    refine ⟨zdec_ok h.1, ?_⟩
    have h2 := h.2
    split at h2
    next t => exact ⟨t - 102, by have := of_decide_eq_true h2; simp; omega⟩
    next => cases h2
  case aastore =>
    simp only [zck1, Bool.and_eq_true] at h
    refine ⟨zdec_ok h.1, ?_⟩
    have h2 := h.2
    split at h2
    next t ci => exact ⟨ci, by rw [eq_of_beq h2]⟩
    next => cases h2
  all_goals exact ⟨zdec_ok h, trivial⟩
theorem zckB_ok {mt : Nat → Option zM} {cl : List vw_C} {Ts : List Cond} {own : String} {cp : List (Nat × List Nat)} (hcp : ∀ i e, cp.lookup i = some e → zcpOK mt cl Ts own i e) (hai : Cond.arrayClass .int ∈ Ts) (hal : Cond.arrayClass .long ∈ Ts) {ctor : Bool} {nL : Nat} {rt : Option FieldType} {fr lo : Nat} {cc : ByteArray} : ∀ {b : List zE} {pc : Nat}, zckB cp ctor nL rt fr lo cc pc b = true → zBK mt cl Ts own ctor nL rt fr lo cc pc b
  | [], _, _ => trivial
  | (I, x, c) :: t, pc, h => by
    simp only [zckB, Bool.and_eq_true] at h
    exact ⟨zck1_ok hcp hai hal h.1, zckB_ok hcp hai hal h.2⟩
/-- all blocks of a method -/
def zckM (cp : List (Nat × List Nat)) (ctor : Bool) (nL : Nat) (rt : Option FieldType) (fr lo : Nat) (cc : ByteArray) (bs : List (Nat × List zE)) : Bool := bs.all fun q => zckB cp ctor nL rt fr lo cc q.1 q.2
theorem zlook {α : Type} : ∀ {l : List (Nat × α)} {i : Nat} {e : α}, l.lookup i = some e → (i, e) ∈ l
  | [], _, _, h => by cases h
  | (j, d) :: t, i, e, h => by
    rw [List.lookup_cons] at h
    cases hij : (i == j) with
    | true =>
      rw [hij] at h
      cases h
      rw [eq_of_beq hij]
      exact List.mem_cons_self
    | false =>
      rw [hij] at h
      exact List.mem_cons_of_mem _ (zlook h)
theorem zckM_ok {mt : Nat → Option zM} {cl : List vw_C} {Ts : List Cond} {own : String} {cp : List (Nat × List Nat)} (hcp : ∀ q ∈ cp, zcpOK mt cl Ts own q.1 q.2) (hai : Cond.arrayClass .int ∈ Ts) (hal : Cond.arrayClass .long ∈ Ts) {ctor : Bool} {nL : Nat} {rt : Option FieldType} {fr lo : Nat} {cc : ByteArray} {bs : List (Nat × List zE)} (h : zckM cp ctor nL rt fr lo cc bs = true) (pc : Nat) (b : List zE) (hb : bs.lookup pc = some b) : zBK mt cl Ts own ctor nL rt fr lo cc pc b :=
  zckB_ok (fun i e he => hcp _ (zlook he)) hai hal (List.all_eq_true.mp h _ (zlook hb))
end
