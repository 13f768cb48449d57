section
-- ===== PART A: goes FIRST, ahead of the names: the tables' words, and 'selects' of the private methods out of them =====
/-- a private method of a class that the tables say can be made, by its rows of tables_1 -/
def lw_okq (q : MethodName × Nat) : Prop := (q.1.cls ≠ "java/lang/invoke/MethodHandle" ∧ q.1.cls ≠ "java/lang/invoke/VarHandle") ∧ Cond.instantiable q.1.cls q.2 ∈ tables_1 ∧ Cond.privateMethod q.1 ∈ tables_1 ∧ Cond.instanceMethod q.1 ∈ tables_1
theorem lw_p0 : lw_okq (⟨"MindReaders", "firstFault", "()I"⟩, 14) := ⟨⟨by decide +kernel, by decide +kernel⟩, List.mem_of_getElem? (i := 12) (by decide +kernel), List.mem_of_getElem? (i := 200) (by decide +kernel), List.mem_of_getElem? (i := 201) (by decide +kernel)⟩
theorem lw_p1 : lw_okq (⟨"MindReaders", "codeAt", "(I)LMindReaders$Code;"⟩, 14) := ⟨⟨by decide +kernel, by decide +kernel⟩, List.mem_of_getElem? (i := 12) (by decide +kernel), List.mem_of_getElem? (i := 279) (by decide +kernel), List.mem_of_getElem? (i := 280) (by decide +kernel)⟩
theorem lw_p2 : lw_okq (⟨"MindReaders", "isThing", "(I)Z"⟩, 14) := ⟨⟨by decide +kernel, by decide +kernel⟩, List.mem_of_getElem? (i := 12) (by decide +kernel), List.mem_of_getElem? (i := 313) (by decide +kernel), List.mem_of_getElem? (i := 314) (by decide +kernel)⟩
theorem lw_p3 : lw_okq (⟨"MindReaders", "longOf", "(LMindReaders$Code;I)I"⟩, 14) := ⟨⟨by decide +kernel, by decide +kernel⟩, List.mem_of_getElem? (i := 12) (by decide +kernel), List.mem_of_getElem? (i := 331) (by decide +kernel), List.mem_of_getElem? (i := 332) (by decide +kernel)⟩
theorem lw_p4 : lw_okq (⟨"MindReaders", "hearPage", "()Z"⟩, 14) := ⟨⟨by decide +kernel, by decide +kernel⟩, List.mem_of_getElem? (i := 12) (by decide +kernel), List.mem_of_getElem? (i := 344) (by decide +kernel), List.mem_of_getElem? (i := 345) (by decide +kernel)⟩
theorem lw_p5 : lw_okq (⟨"MindReaders", "readPage", "()Z"⟩, 14) := ⟨⟨by decide +kernel, by decide +kernel⟩, List.mem_of_getElem? (i := 12) (by decide +kernel), List.mem_of_getElem? (i := 348) (by decide +kernel), List.mem_of_getElem? (i := 349) (by decide +kernel)⟩
theorem lw_p6 : lw_okq (⟨"MindReaders$Readings", "meet", "(LMindReaders$Code;IIII)Z"⟩, 2) := ⟨⟨by decide +kernel, by decide +kernel⟩, List.mem_of_getElem? (i := 94) (by decide +kernel), List.mem_of_getElem? (i := 401) (by decide +kernel), List.mem_of_getElem? (i := 402) (by decide +kernel)⟩
theorem lw_p7 : lw_okq (⟨"MindReaders$Readings", "comeTo", "(III)Z"⟩, 2) := ⟨⟨by decide +kernel, by decide +kernel⟩, List.mem_of_getElem? (i := 94) (by decide +kernel), List.mem_of_getElem? (i := 409) (by decide +kernel), List.mem_of_getElem? (i := 410) (by decide +kernel)⟩
theorem lw_p8 : lw_okq (⟨"MindReaders$Readings", "goOn", "(LMindReaders$Code;)Z"⟩, 2) := ⟨⟨by decide +kernel, by decide +kernel⟩, List.mem_of_getElem? (i := 94) (by decide +kernel), List.mem_of_getElem? (i := 414) (by decide +kernel), List.mem_of_getElem? (i := 415) (by decide +kernel)⟩
theorem lw_p9 : lw_okq (⟨"MindReaders", "thingsSaid", "(LMindReaders$Code;)I"⟩, 14) := ⟨⟨by decide +kernel, by decide +kernel⟩, List.mem_of_getElem? (i := 12) (by decide +kernel), List.mem_of_getElem? (i := 425) (by decide +kernel), List.mem_of_getElem? (i := 426) (by decide +kernel)⟩
theorem lw_p10 : lw_okq (⟨"MindReaders", "dealtTo", "(LMindReaders$Code;I)I"⟩, 14) := ⟨⟨by decide +kernel, by decide +kernel⟩, List.mem_of_getElem? (i := 12) (by decide +kernel), List.mem_of_getElem? (i := 450) (by decide +kernel), List.mem_of_getElem? (i := 451) (by decide +kernel)⟩
theorem lw_p11 : lw_okq (⟨"MindReaders", "rankByLong", "(LMindReaders$Code;II)I"⟩, 14) := ⟨⟨by decide +kernel, by decide +kernel⟩, List.mem_of_getElem? (i := 12) (by decide +kernel), List.mem_of_getElem? (i := 457) (by decide +kernel), List.mem_of_getElem? (i := 458) (by decide +kernel)⟩
theorem lw_p12 : lw_okq (⟨"MindReaders", "leastLong", "(I)J"⟩, 14) := ⟨⟨by decide +kernel, by decide +kernel⟩, List.mem_of_getElem? (i := 12) (by decide +kernel), List.mem_of_getElem? (i := 465) (by decide +kernel), List.mem_of_getElem? (i := 466) (by decide +kernel)⟩
theorem lw_p13 : lw_okq (⟨"MindReaders", "waysNamed", "(LMindReaders$Code;III)J"⟩, 14) := ⟨⟨by decide +kernel, by decide +kernel⟩, List.mem_of_getElem? (i := 12) (by decide +kernel), List.mem_of_getElem? (i := 512) (by decide +kernel), List.mem_of_getElem? (i := 513) (by decide +kernel)⟩
theorem lw_p14 : lw_okq (⟨"MindReaders", "waysHeard", "(LMindReaders$Row;II)J"⟩, 14) := ⟨⟨by decide +kernel, by decide +kernel⟩, List.mem_of_getElem? (i := 12) (by decide +kernel), List.mem_of_getElem? (i := 519) (by decide +kernel), List.mem_of_getElem? (i := 520) (by decide +kernel)⟩
theorem lw_p15 : lw_okq (⟨"MindReaders", "notesLet", "(LMindReaders$Code;II)Z"⟩, 14) := ⟨⟨by decide +kernel, by decide +kernel⟩, List.mem_of_getElem? (i := 12) (by decide +kernel), List.mem_of_getElem? (i := 556) (by decide +kernel), List.mem_of_getElem? (i := 557) (by decide +kernel)⟩
def lw_privs_1 : List (MethodName × Nat) := [(⟨"MindReaders", "firstFault", "()I"⟩, 14), (⟨"MindReaders", "codeAt", "(I)LMindReaders$Code;"⟩, 14), (⟨"MindReaders", "isThing", "(I)Z"⟩, 14), (⟨"MindReaders", "longOf", "(LMindReaders$Code;I)I"⟩, 14), (⟨"MindReaders", "hearPage", "()Z"⟩, 14), (⟨"MindReaders", "readPage", "()Z"⟩, 14), (⟨"MindReaders$Readings", "meet", "(LMindReaders$Code;IIII)Z"⟩, 2), (⟨"MindReaders$Readings", "comeTo", "(III)Z"⟩, 2), (⟨"MindReaders$Readings", "goOn", "(LMindReaders$Code;)Z"⟩, 2), (⟨"MindReaders", "thingsSaid", "(LMindReaders$Code;)I"⟩, 14), (⟨"MindReaders", "dealtTo", "(LMindReaders$Code;I)I"⟩, 14), (⟨"MindReaders", "rankByLong", "(LMindReaders$Code;II)I"⟩, 14), (⟨"MindReaders", "leastLong", "(I)J"⟩, 14), (⟨"MindReaders", "waysNamed", "(LMindReaders$Code;III)J"⟩, 14), (⟨"MindReaders", "waysHeard", "(LMindReaders$Row;II)J"⟩, 14), (⟨"MindReaders", "notesLet", "(LMindReaders$Code;II)Z"⟩, 14)]
theorem lw_r1 : ∀ q ∈ lw_privs_1, lw_okq q := List.forall_mem_cons.mpr ⟨lw_p0, List.forall_mem_cons.mpr ⟨lw_p1, List.forall_mem_cons.mpr ⟨lw_p2, List.forall_mem_cons.mpr ⟨lw_p3, List.forall_mem_cons.mpr ⟨lw_p4, List.forall_mem_cons.mpr ⟨lw_p5, List.forall_mem_cons.mpr ⟨lw_p6, List.forall_mem_cons.mpr ⟨lw_p7, List.forall_mem_cons.mpr ⟨lw_p8, List.forall_mem_cons.mpr ⟨lw_p9, List.forall_mem_cons.mpr ⟨lw_p10, List.forall_mem_cons.mpr ⟨lw_p11, List.forall_mem_cons.mpr ⟨lw_p12, List.forall_mem_cons.mpr ⟨lw_p13, List.forall_mem_cons.mpr ⟨lw_p14, List.forall_mem_cons.mpr ⟨lw_p15, fun _ h => absurd h List.not_mem_nil⟩⟩⟩⟩⟩⟩⟩⟩⟩⟩⟩⟩⟩⟩⟩⟩
theorem lw_p16 : lw_okq (⟨"MindReaders", "waysAllSeen", "(I)J"⟩, 14) := ⟨⟨by decide +kernel, by decide +kernel⟩, List.mem_of_getElem? (i := 12) (by decide +kernel), List.mem_of_getElem? (i := 578) (by decide +kernel), List.mem_of_getElem? (i := 579) (by decide +kernel)⟩
theorem lw_p17 : lw_okq (⟨"MindReaders", "changeOf", "(LMindReaders$Code;LMindReaders$Code;)I"⟩, 14) := ⟨⟨by decide +kernel, by decide +kernel⟩, List.mem_of_getElem? (i := 12) (by decide +kernel), List.mem_of_getElem? (i := 592) (by decide +kernel), List.mem_of_getElem? (i := 593) (by decide +kernel)⟩
theorem lw_p18 : lw_okq (⟨"MindReaders", "unlike", "(LMindReaders$Code;II)I"⟩, 14) := ⟨⟨by decide +kernel, by decide +kernel⟩, List.mem_of_getElem? (i := 12) (by decide +kernel), List.mem_of_getElem? (i := 611) (by decide +kernel), List.mem_of_getElem? (i := 612) (by decide +kernel)⟩
theorem lw_p19 : lw_okq (⟨"MindReaders", "mixCode", "(JILMindReaders$Code;)J"⟩, 14) := ⟨⟨by decide +kernel, by decide +kernel⟩, List.mem_of_getElem? (i := 12) (by decide +kernel), List.mem_of_getElem? (i := 654) (by decide +kernel), List.mem_of_getElem? (i := 655) (by decide +kernel)⟩
theorem lw_p20 : lw_okq (⟨"MindReadersModel", "faultOf", "()I"⟩, 27) := ⟨⟨by decide +kernel, by decide +kernel⟩, List.mem_of_getElem? (i := 665) (by decide +kernel), List.mem_of_getElem? (i := 767) (by decide +kernel), List.mem_of_getElem? (i := 768) (by decide +kernel)⟩
theorem lw_p21 : lw_okq (⟨"MindReadersModel", "go", "(I)Z"⟩, 27) := ⟨⟨by decide +kernel, by decide +kernel⟩, List.mem_of_getElem? (i := 665) (by decide +kernel), List.mem_of_getElem? (i := 771) (by decide +kernel), List.mem_of_getElem? (i := 772) (by decide +kernel)⟩
theorem lw_p22 : lw_okq (⟨"MindReadersModel", "isSignal", "(I)Z"⟩, 27) := ⟨⟨by decide +kernel, by decide +kernel⟩, List.mem_of_getElem? (i := 665) (by decide +kernel), List.mem_of_getElem? (i := 794) (by decide +kernel), List.mem_of_getElem? (i := 795) (by decide +kernel)⟩
theorem lw_p23 : lw_okq (⟨"MindReadersModel", "isThing", "(I)Z"⟩, 27) := ⟨⟨by decide +kernel, by decide +kernel⟩, List.mem_of_getElem? (i := 665) (by decide +kernel), List.mem_of_getElem? (i := 812) (by decide +kernel), List.mem_of_getElem? (i := 813) (by decide +kernel)⟩
theorem lw_p24 : lw_okq (⟨"MindReadersModel", "isCode", "(I)Z"⟩, 27) := ⟨⟨by decide +kernel, by decide +kernel⟩, List.mem_of_getElem? (i := 665) (by decide +kernel), List.mem_of_getElem? (i := 820) (by decide +kernel), List.mem_of_getElem? (i := 821) (by decide +kernel)⟩
theorem lw_p25 : lw_okq (⟨"MindReadersModel", "speechOf", "(III)I"⟩, 27) := ⟨⟨by decide +kernel, by decide +kernel⟩, List.mem_of_getElem? (i := 665) (by decide +kernel), List.mem_of_getElem? (i := 824) (by decide +kernel), List.mem_of_getElem? (i := 825) (by decide +kernel)⟩
theorem lw_p26 : lw_okq (⟨"MindReadersModel", "layPlain", "(III)V"⟩, 27) := ⟨⟨by decide +kernel, by decide +kernel⟩, List.mem_of_getElem? (i := 665) (by decide +kernel), List.mem_of_getElem? (i := 829) (by decide +kernel), List.mem_of_getElem? (i := 830) (by decide +kernel)⟩
theorem lw_p27 : lw_okq (⟨"MindReadersModel", "stand", "(I)V"⟩, 27) := ⟨⟨by decide +kernel, by decide +kernel⟩, List.mem_of_getElem? (i := 665) (by decide +kernel), List.mem_of_getElem? (i := 833) (by decide +kernel), List.mem_of_getElem? (i := 834) (by decide +kernel)⟩
theorem lw_p28 : lw_okq (⟨"MindReadersModel", "kindOf", "(I)I"⟩, 27) := ⟨⟨by decide +kernel, by decide +kernel⟩, List.mem_of_getElem? (i := 665) (by decide +kernel), List.mem_of_getElem? (i := 837) (by decide +kernel), List.mem_of_getElem? (i := 838) (by decide +kernel)⟩
theorem lw_p29 : lw_okq (⟨"MindReadersModel", "longOf", "(II)I"⟩, 27) := ⟨⟨by decide +kernel, by decide +kernel⟩, List.mem_of_getElem? (i := 665) (by decide +kernel), List.mem_of_getElem? (i := 843) (by decide +kernel), List.mem_of_getElem? (i := 844) (by decide +kernel)⟩
theorem lw_p30 : lw_okq (⟨"MindReadersModel", "secondsOf", "(I)I"⟩, 27) := ⟨⟨by decide +kernel, by decide +kernel⟩, List.mem_of_getElem? (i := 665) (by decide +kernel), List.mem_of_getElem? (i := 847) (by decide +kernel), List.mem_of_getElem? (i := 848) (by decide +kernel)⟩
theorem lw_p31 : lw_okq (⟨"MindReadersModel", "layAll", "(II)V"⟩, 27) := ⟨⟨by decide +kernel, by decide +kernel⟩, List.mem_of_getElem? (i := 665) (by decide +kernel), List.mem_of_getElem? (i := 855) (by decide +kernel), List.mem_of_getElem? (i := 856) (by decide +kernel)⟩
def lw_privs_2 : List (MethodName × Nat) := [(⟨"MindReaders", "waysAllSeen", "(I)J"⟩, 14), (⟨"MindReaders", "changeOf", "(LMindReaders$Code;LMindReaders$Code;)I"⟩, 14), (⟨"MindReaders", "unlike", "(LMindReaders$Code;II)I"⟩, 14), (⟨"MindReaders", "mixCode", "(JILMindReaders$Code;)J"⟩, 14), (⟨"MindReadersModel", "faultOf", "()I"⟩, 27), (⟨"MindReadersModel", "go", "(I)Z"⟩, 27), (⟨"MindReadersModel", "isSignal", "(I)Z"⟩, 27), (⟨"MindReadersModel", "isThing", "(I)Z"⟩, 27), (⟨"MindReadersModel", "isCode", "(I)Z"⟩, 27), (⟨"MindReadersModel", "speechOf", "(III)I"⟩, 27), (⟨"MindReadersModel", "layPlain", "(III)V"⟩, 27), (⟨"MindReadersModel", "stand", "(I)V"⟩, 27), (⟨"MindReadersModel", "kindOf", "(I)I"⟩, 27), (⟨"MindReadersModel", "longOf", "(II)I"⟩, 27), (⟨"MindReadersModel", "secondsOf", "(I)I"⟩, 27), (⟨"MindReadersModel", "layAll", "(II)V"⟩, 27)]
theorem lw_r2 : ∀ q ∈ lw_privs_2, lw_okq q := List.forall_mem_cons.mpr ⟨lw_p16, List.forall_mem_cons.mpr ⟨lw_p17, List.forall_mem_cons.mpr ⟨lw_p18, List.forall_mem_cons.mpr ⟨lw_p19, List.forall_mem_cons.mpr ⟨lw_p20, List.forall_mem_cons.mpr ⟨lw_p21, List.forall_mem_cons.mpr ⟨lw_p22, List.forall_mem_cons.mpr ⟨lw_p23, List.forall_mem_cons.mpr ⟨lw_p24, List.forall_mem_cons.mpr ⟨lw_p25, List.forall_mem_cons.mpr ⟨lw_p26, List.forall_mem_cons.mpr ⟨lw_p27, List.forall_mem_cons.mpr ⟨lw_p28, List.forall_mem_cons.mpr ⟨lw_p29, List.forall_mem_cons.mpr ⟨lw_p30, List.forall_mem_cons.mpr ⟨lw_p31, fun _ h => absurd h List.not_mem_nil⟩⟩⟩⟩⟩⟩⟩⟩⟩⟩⟩⟩⟩⟩⟩⟩
theorem lw_p32 : lw_okq (⟨"MindReadersModel", "layPage", "()Z"⟩, 27) := ⟨⟨by decide +kernel, by decide +kernel⟩, List.mem_of_getElem? (i := 665) (by decide +kernel), List.mem_of_getElem? (i := 859) (by decide +kernel), List.mem_of_getElem? (i := 860) (by decide +kernel)⟩
theorem lw_p33 : lw_okq (⟨"MindReadersModel", "namedNow", "(I)I"⟩, 27) := ⟨⟨by decide +kernel, by decide +kernel⟩, List.mem_of_getElem? (i := 665) (by decide +kernel), List.mem_of_getElem? (i := 863) (by decide +kernel), List.mem_of_getElem? (i := 864) (by decide +kernel)⟩
theorem lw_p34 : lw_okq (⟨"MindReadersModel", "differs", "(I)I"⟩, 27) := ⟨⟨by decide +kernel, by decide +kernel⟩, List.mem_of_getElem? (i := 665) (by decide +kernel), List.mem_of_getElem? (i := 868) (by decide +kernel), List.mem_of_getElem? (i := 869) (by decide +kernel)⟩
theorem lw_p35 : lw_okq (⟨"MindReadersModel", "alikeOf", "(I)I"⟩, 27) := ⟨⟨by decide +kernel, by decide +kernel⟩, List.mem_of_getElem? (i := 665) (by decide +kernel), List.mem_of_getElem? (i := 877) (by decide +kernel), List.mem_of_getElem? (i := 878) (by decide +kernel)⟩
theorem lw_p36 : lw_okq (⟨"MindReadersModel", "isAlike", "(II)Z"⟩, 27) := ⟨⟨by decide +kernel, by decide +kernel⟩, List.mem_of_getElem? (i := 665) (by decide +kernel), List.mem_of_getElem? (i := 881) (by decide +kernel), List.mem_of_getElem? (i := 882) (by decide +kernel)⟩
theorem lw_p37 : lw_okq (⟨"MindReadersModel", "isStart", "(III)Z"⟩, 27) := ⟨⟨by decide +kernel, by decide +kernel⟩, List.mem_of_getElem? (i := 665) (by decide +kernel), List.mem_of_getElem? (i := 885) (by decide +kernel), List.mem_of_getElem? (i := 886) (by decide +kernel)⟩
theorem lw_p38 : lw_okq (⟨"MindReadersModel", "twiceOf", "(I)I"⟩, 27) := ⟨⟨by decide +kernel, by decide +kernel⟩, List.mem_of_getElem? (i := 665) (by decide +kernel), List.mem_of_getElem? (i := 897) (by decide +kernel), List.mem_of_getElem? (i := 898) (by decide +kernel)⟩
theorem lw_p39 : lw_okq (⟨"MindReadersModel", "goesOn", "(III)Z"⟩, 27) := ⟨⟨by decide +kernel, by decide +kernel⟩, List.mem_of_getElem? (i := 665) (by decide +kernel), List.mem_of_getElem? (i := 901) (by decide +kernel), List.mem_of_getElem? (i := 902) (by decide +kernel)⟩
theorem lw_p40 : lw_okq (⟨"MindReadersModel", "reach", "(III)Z"⟩, 27) := ⟨⟨by decide +kernel, by decide +kernel⟩, List.mem_of_getElem? (i := 665) (by decide +kernel), List.mem_of_getElem? (i := 905) (by decide +kernel), List.mem_of_getElem? (i := 906) (by decide +kernel)⟩
theorem lw_p41 : lw_okq (⟨"MindReadersModel", "reachBy", "(IIII)Z"⟩, 27) := ⟨⟨by decide +kernel, by decide +kernel⟩, List.mem_of_getElem? (i := 665) (by decide +kernel), List.mem_of_getElem? (i := 909) (by decide +kernel), List.mem_of_getElem? (i := 910) (by decide +kernel)⟩
theorem lw_p42 : lw_okq (⟨"MindReadersModel", "saidBy", "(I)I"⟩, 27) := ⟨⟨by decide +kernel, by decide +kernel⟩, List.mem_of_getElem? (i := 665) (by decide +kernel), List.mem_of_getElem? (i := 920) (by decide +kernel), List.mem_of_getElem? (i := 921) (by decide +kernel)⟩
theorem lw_p43 : lw_okq (⟨"MindReadersModel", "weighed", "(I)I"⟩, 27) := ⟨⟨by decide +kernel, by decide +kernel⟩, List.mem_of_getElem? (i := 665) (by decide +kernel), List.mem_of_getElem? (i := 924) (by decide +kernel), List.mem_of_getElem? (i := 925) (by decide +kernel)⟩
theorem lw_p44 : lw_okq (⟨"MindReadersModel", "oddnessOf", "(I)I"⟩, 27) := ⟨⟨by decide +kernel, by decide +kernel⟩, List.mem_of_getElem? (i := 665) (by decide +kernel), List.mem_of_getElem? (i := 938) (by decide +kernel), List.mem_of_getElem? (i := 939) (by decide +kernel)⟩
theorem lw_p45 : lw_okq (⟨"MindReadersModel", "oddOf", "(I)I"⟩, 27) := ⟨⟨by decide +kernel, by decide +kernel⟩, List.mem_of_getElem? (i := 665) (by decide +kernel), List.mem_of_getElem? (i := 942) (by decide +kernel), List.mem_of_getElem? (i := 943) (by decide +kernel)⟩
theorem lw_p46 : lw_okq (⟨"MindReadersModel", "placeOf", "(II)I"⟩, 27) := ⟨⟨by decide +kernel, by decide +kernel⟩, List.mem_of_getElem? (i := 665) (by decide +kernel), List.mem_of_getElem? (i := 952) (by decide +kernel), List.mem_of_getElem? (i := 953) (by decide +kernel)⟩
theorem lw_p47 : lw_okq (⟨"MindReadersModel", "speechAt", "(III)I"⟩, 27) := ⟨⟨by decide +kernel, by decide +kernel⟩, List.mem_of_getElem? (i := 665) (by decide +kernel), List.mem_of_getElem? (i := 956) (by decide +kernel), List.mem_of_getElem? (i := 957) (by decide +kernel)⟩
def lw_privs_3 : List (MethodName × Nat) := [(⟨"MindReadersModel", "layPage", "()Z"⟩, 27), (⟨"MindReadersModel", "namedNow", "(I)I"⟩, 27), (⟨"MindReadersModel", "differs", "(I)I"⟩, 27), (⟨"MindReadersModel", "alikeOf", "(I)I"⟩, 27), (⟨"MindReadersModel", "isAlike", "(II)Z"⟩, 27), (⟨"MindReadersModel", "isStart", "(III)Z"⟩, 27), (⟨"MindReadersModel", "twiceOf", "(I)I"⟩, 27), (⟨"MindReadersModel", "goesOn", "(III)Z"⟩, 27), (⟨"MindReadersModel", "reach", "(III)Z"⟩, 27), (⟨"MindReadersModel", "reachBy", "(IIII)Z"⟩, 27), (⟨"MindReadersModel", "saidBy", "(I)I"⟩, 27), (⟨"MindReadersModel", "weighed", "(I)I"⟩, 27), (⟨"MindReadersModel", "oddnessOf", "(I)I"⟩, 27), (⟨"MindReadersModel", "oddOf", "(I)I"⟩, 27), (⟨"MindReadersModel", "placeOf", "(II)I"⟩, 27), (⟨"MindReadersModel", "speechAt", "(III)I"⟩, 27)]
theorem lw_r3 : ∀ q ∈ lw_privs_3, lw_okq q := List.forall_mem_cons.mpr ⟨lw_p32, List.forall_mem_cons.mpr ⟨lw_p33, List.forall_mem_cons.mpr ⟨lw_p34, List.forall_mem_cons.mpr ⟨lw_p35, List.forall_mem_cons.mpr ⟨lw_p36, List.forall_mem_cons.mpr ⟨lw_p37, List.forall_mem_cons.mpr ⟨lw_p38, List.forall_mem_cons.mpr ⟨lw_p39, List.forall_mem_cons.mpr ⟨lw_p40, List.forall_mem_cons.mpr ⟨lw_p41, List.forall_mem_cons.mpr ⟨lw_p42, List.forall_mem_cons.mpr ⟨lw_p43, List.forall_mem_cons.mpr ⟨lw_p44, List.forall_mem_cons.mpr ⟨lw_p45, List.forall_mem_cons.mpr ⟨lw_p46, List.forall_mem_cons.mpr ⟨lw_p47, fun _ h => absurd h List.not_mem_nil⟩⟩⟩⟩⟩⟩⟩⟩⟩⟩⟩⟩⟩⟩⟩⟩
theorem lw_p48 : lw_okq (⟨"MindReadersModel", "shortNow", "(I)I"⟩, 27) := ⟨⟨by decide +kernel, by decide +kernel⟩, List.mem_of_getElem? (i := 665) (by decide +kernel), List.mem_of_getElem? (i := 965) (by decide +kernel), List.mem_of_getElem? (i := 966) (by decide +kernel)⟩
theorem lw_p49 : lw_okq (⟨"MindReadersModel", "takeLeast", "(I)I"⟩, 27) := ⟨⟨by decide +kernel, by decide +kernel⟩, List.mem_of_getElem? (i := 665) (by decide +kernel), List.mem_of_getElem? (i := 969) (by decide +kernel), List.mem_of_getElem? (i := 970) (by decide +kernel)⟩
theorem lw_p50 : lw_okq (⟨"MindReadersModel", "apartOf", "(I)I"⟩, 27) := ⟨⟨by decide +kernel, by decide +kernel⟩, List.mem_of_getElem? (i := 665) (by decide +kernel), List.mem_of_getElem? (i := 977) (by decide +kernel), List.mem_of_getElem? (i := 978) (by decide +kernel)⟩
theorem lw_p51 : lw_okq (⟨"MindReadersModel", "isAmong", "(II)Z"⟩, 27) := ⟨⟨by decide +kernel, by decide +kernel⟩, List.mem_of_getElem? (i := 665) (by decide +kernel), List.mem_of_getElem? (i := 991) (by decide +kernel), List.mem_of_getElem? (i := 992) (by decide +kernel)⟩
theorem lw_p52 : lw_okq (⟨"MindReadersModel", "whichNow", "()I"⟩, 27) := ⟨⟨by decide +kernel, by decide +kernel⟩, List.mem_of_getElem? (i := 665) (by decide +kernel), List.mem_of_getElem? (i := 1008) (by decide +kernel), List.mem_of_getElem? (i := 1009) (by decide +kernel)⟩
theorem lw_p53 : lw_okq (⟨"MindReadersModel", "isSaid", "(III)Z"⟩, 27) := ⟨⟨by decide +kernel, by decide +kernel⟩, List.mem_of_getElem? (i := 665) (by decide +kernel), List.mem_of_getElem? (i := 1012) (by decide +kernel), List.mem_of_getElem? (i := 1013) (by decide +kernel)⟩
theorem lw_p54 : lw_okq (⟨"MindReadersModel", "changeOf", "(II)I"⟩, 27) := ⟨⟨by decide +kernel, by decide +kernel⟩, List.mem_of_getElem? (i := 665) (by decide +kernel), List.mem_of_getElem? (i := 1029) (by decide +kernel), List.mem_of_getElem? (i := 1030) (by decide +kernel)⟩
theorem lw_p55 : lw_okq (⟨"MindReadersModel", "isLike", "(III)Z"⟩, 27) := ⟨⟨by decide +kernel, by decide +kernel⟩, List.mem_of_getElem? (i := 665) (by decide +kernel), List.mem_of_getElem? (i := 1033) (by decide +kernel), List.mem_of_getElem? (i := 1034) (by decide +kernel)⟩
theorem lw_p56 : lw_okq (⟨"MindReadersModel", "leftOf", "(II)I"⟩, 27) := ⟨⟨by decide +kernel, by decide +kernel⟩, List.mem_of_getElem? (i := 665) (by decide +kernel), List.mem_of_getElem? (i := 1050) (by decide +kernel), List.mem_of_getElem? (i := 1051) (by decide +kernel)⟩
theorem lw_p57 : lw_okq (⟨"MindReadersModel", "stopOf", "(I)I"⟩, 27) := ⟨⟨by decide +kernel, by decide +kernel⟩, List.mem_of_getElem? (i := 665) (by decide +kernel), List.mem_of_getElem? (i := 1058) (by decide +kernel), List.mem_of_getElem? (i := 1059) (by decide +kernel)⟩
theorem lw_p58 : lw_okq (⟨"MindReadersModel", "countOf", "(I)I"⟩, 27) := ⟨⟨by decide +kernel, by decide +kernel⟩, List.mem_of_getElem? (i := 665) (by decide +kernel), List.mem_of_getElem? (i := 1074) (by decide +kernel), List.mem_of_getElem? (i := 1075) (by decide +kernel)⟩
theorem lw_p59 : lw_okq (⟨"MindReadersModel", "say", "(J)V"⟩, 27) := ⟨⟨by decide +kernel, by decide +kernel⟩, List.mem_of_getElem? (i := 665) (by decide +kernel), List.mem_of_getElem? (i := 1083) (by decide +kernel), List.mem_of_getElem? (i := 1084) (by decide +kernel)⟩
theorem lw_p60 : lw_okq (⟨"MindReadersModel", "sayCode", "(I)V"⟩, 27) := ⟨⟨by decide +kernel, by decide +kernel⟩, List.mem_of_getElem? (i := 665) (by decide +kernel), List.mem_of_getElem? (i := 1088) (by decide +kernel), List.mem_of_getElem? (i := 1089) (by decide +kernel)⟩
def lw_privs_4 : List (MethodName × Nat) := [(⟨"MindReadersModel", "shortNow", "(I)I"⟩, 27), (⟨"MindReadersModel", "takeLeast", "(I)I"⟩, 27), (⟨"MindReadersModel", "apartOf", "(I)I"⟩, 27), (⟨"MindReadersModel", "isAmong", "(II)Z"⟩, 27), (⟨"MindReadersModel", "whichNow", "()I"⟩, 27), (⟨"MindReadersModel", "isSaid", "(III)Z"⟩, 27), (⟨"MindReadersModel", "changeOf", "(II)I"⟩, 27), (⟨"MindReadersModel", "isLike", "(III)Z"⟩, 27), (⟨"MindReadersModel", "leftOf", "(II)I"⟩, 27), (⟨"MindReadersModel", "stopOf", "(I)I"⟩, 27), (⟨"MindReadersModel", "countOf", "(I)I"⟩, 27), (⟨"MindReadersModel", "say", "(J)V"⟩, 27), (⟨"MindReadersModel", "sayCode", "(I)V"⟩, 27)]
theorem lw_r4 : ∀ q ∈ lw_privs_4, lw_okq q := List.forall_mem_cons.mpr ⟨lw_p48, List.forall_mem_cons.mpr ⟨lw_p49, List.forall_mem_cons.mpr ⟨lw_p50, List.forall_mem_cons.mpr ⟨lw_p51, List.forall_mem_cons.mpr ⟨lw_p52, List.forall_mem_cons.mpr ⟨lw_p53, List.forall_mem_cons.mpr ⟨lw_p54, List.forall_mem_cons.mpr ⟨lw_p55, List.forall_mem_cons.mpr ⟨lw_p56, List.forall_mem_cons.mpr ⟨lw_p57, List.forall_mem_cons.mpr ⟨lw_p58, List.forall_mem_cons.mpr ⟨lw_p59, List.forall_mem_cons.mpr ⟨lw_p60, fun _ h => absurd h List.not_mem_nil⟩⟩⟩⟩⟩⟩⟩⟩⟩⟩⟩⟩⟩
def lw_privs : List (MethodName × Nat) := lw_privs_1 ++ (lw_privs_2 ++ (lw_privs_3 ++ (lw_privs_4)))
def lw_tbl : List Cond := k2_sels lw_privs ++ tables_1
theorem lw_privs_ok : ∀ q ∈ lw_privs, lw_okq q := by
  show ∀ q ∈ lw_privs_1 ++ (lw_privs_2 ++ (lw_privs_3 ++ (lw_privs_4))), lw_okq q
  exact List.forall_mem_append.mpr ⟨lw_r1, List.forall_mem_append.mpr ⟨lw_r2, List.forall_mem_append.mpr ⟨lw_r3, lw_r4⟩⟩⟩
def RX0 : String := "MindReaders$Code"
def TX0 : u_T := fun k => match k with
  | 0 => ("MindReaders$Code", "spoken", "LMindReaders$Rows;", true)
  | 1 => ("MindReaders$Code", "plain", "LMindReaders$Rows;", true)
  | _ => ("MindReaders$Code", "size", "I", false)
def tyX0 : Nat → FieldType := fun k => match k with
  | 0 => .object "MindReaders$Rows"
  | 1 => .object "MindReaders$Rows"
  | _ => .int
abbrev wsX00 : List Cond := u_ws RX0 TX0 3
theorem nmX0 : ∀ a, a < 3 → ∀ b, b < 3 → a ≠ b → (TX0 a).2.1 ≠ (TX0 b).2.1 := by decide +kernel
theorem tyX0_ok : ∀ k, k < 3 → parseFieldDescriptor (TX0 k).2.2.1 = some (tyX0 k) := by decide +kernel
def RX1 : String := "MindReaders$Notes"
def TX1 : u_T := fun k => match k with
  | 0 => ("MindReaders$Notes", "things", "LMindReaders$Row;", true)
  | _ => ("MindReaders$Notes", "rows", "LMindReaders$Rows;", true)
def tyX1 : Nat → FieldType := fun k => match k with
  | 0 => .object "MindReaders$Row"
  | _ => .object "MindReaders$Rows"
abbrev wsX10 : List Cond := u_ws RX1 TX1 2
theorem nmX1 : ∀ a, a < 2 → ∀ b, b < 2 → a ≠ b → (TX1 a).2.1 ≠ (TX1 b).2.1 := by decide +kernel
theorem tyX1_ok : ∀ k, k < 2 → parseFieldDescriptor (TX1 k).2.2.1 = some (tyX1 k) := by decide +kernel
def RX2 : String := "MindReaders$Readings"
def TX2 : u_T := fun k => match k with
  | 0 => ("MindReaders$Readings", "lengths", "LMindReaders$Row;", true)
  | _ => ("MindReaders$Readings", "best", "I", false)
def tyX2 : Nat → FieldType := fun k => match k with
  | 0 => .object "MindReaders$Row"
  | _ => .int
abbrev wsX20 : List Cond := u_ws RX2 TX2 2
theorem nmX2 : ∀ a, a < 2 → ∀ b, b < 2 → a ≠ b → (TX2 a).2.1 ≠ (TX2 b).2.1 := by decide +kernel
theorem tyX2_ok : ∀ k, k < 2 → parseFieldDescriptor (TX2 k).2.2.1 = some (tyX2 k) := by decide +kernel
def RX3 : String := "MindReaders$Row"
def TX3 : u_T := fun k => match k with
  | 0 => ("MindReaders$Row", "cells", "[I", true)
  | _ => ("MindReaders$Row", "size", "I", false)
def tyX3 : Nat → FieldType := fun k => match k with
  | 0 => .array .int
  | _ => .int
abbrev wsX30 : List Cond := u_ws RX3 TX3 2
theorem nmX3 : ∀ a, a < 2 → ∀ b, b < 2 → a ≠ b → (TX3 a).2.1 ≠ (TX3 b).2.1 := by decide +kernel
theorem tyX3_ok : ∀ k, k < 2 → parseFieldDescriptor (TX3 k).2.2.1 = some (tyX3 k) := by decide +kernel
def RX4 : String := "MindReaders$Rows"
def TX4 : u_T := fun k => match k with
  | 0 => ("MindReaders$Rows", "rows", "[LMindReaders$Row;", true)
  | _ => ("MindReaders$Rows", "nothing", "LMindReaders$Row;", true)
def tyX4 : Nat → FieldType := fun k => match k with
  | 0 => .array (.object "MindReaders$Row")
  | _ => .object "MindReaders$Row"
abbrev wsX40 : List Cond := u_ws RX4 TX4 2
theorem nmX4 : ∀ a, a < 2 → ∀ b, b < 2 → a ≠ b → (TX4 a).2.1 ≠ (TX4 b).2.1 := by decide +kernel
theorem tyX4_ok : ∀ k, k < 2 → parseFieldDescriptor (TX4 k).2.2.1 = some (tyX4 k) := by decide +kernel
def RX5 : String := "MindReaders$Signals"
def TX5 : u_T := fun k => match k with
  | 0 => ("MindReaders$Signals", "kinds", "LMindReaders$Row;", true)
  | 1 => ("MindReaders$Signals", "tones", "LMindReaders$Row;", true)
  | 2 => ("MindReaders$Signals", "seconds", "LMindReaders$Row;", true)
  | _ => ("MindReaders$Signals", "odds", "LMindReaders$Row;", true)
def tyX5 : Nat → FieldType := fun k => match k with
  | 0 => .object "MindReaders$Row"
  | 1 => .object "MindReaders$Row"
  | 2 => .object "MindReaders$Row"
  | _ => .object "MindReaders$Row"
abbrev wsX50 : List Cond := u_ws RX5 TX5 4
theorem nmX5 : ∀ a, a < 4 → ∀ b, b < 4 → a ≠ b → (TX5 a).2.1 ≠ (TX5 b).2.1 := by decide +kernel
theorem tyX5_ok : ∀ k, k < 4 → parseFieldDescriptor (TX5 k).2.2.1 = some (tyX5 k) := by decide +kernel
def RX6 : String := "MindReaders"
def TX6 : u_T := fun k => match k with
  | 0 => ("MindReaders", "signals", "LMindReaders$Signals;", true)
  | 1 => ("MindReaders", "weights", "LMindReaders$Row;", true)
  | 2 => ("MindReaders", "codes", "[LMindReaders$Code;", true)
  | 3 => ("MindReaders", "codesRead", "I", false)
  | 4 => ("MindReaders", "page", "LMindReaders$Row;", true)
  | 5 => ("MindReaders", "notes", "LMindReaders$Notes;", true)
  | 6 => ("MindReaders", "keptWeights", "LMindReaders$Row;", true)
  | 7 => ("MindReaders", "keptNotes", "LMindReaders$Notes;", true)
  | 8 => ("MindReaders", "kept", "Z", false)
  | 9 => ("MindReaders", "said", "LMindReaders$Row;", true)
  | 10 => ("MindReaders", "heard", "LMindReaders$Row;", true)
  | 11 => ("MindReaders", "pool", "LMindReaders$Row;", true)
  | 12 => ("MindReaders", "struck", "LMindReaders$Rows;", true)
  | _ => ("MindReaders", "readings", "LMindReaders$Readings;", true)
def tyX6 : Nat → FieldType := fun k => match k with
  | 0 => .object "MindReaders$Signals"
  | 1 => .object "MindReaders$Row"
  | 2 => .array (.object "MindReaders$Code")
  | 3 => .int
  | 4 => .object "MindReaders$Row"
  | 5 => .object "MindReaders$Notes"
  | 6 => .object "MindReaders$Row"
  | 7 => .object "MindReaders$Notes"
  | 8 => .boolean
  | 9 => .object "MindReaders$Row"
  | 10 => .object "MindReaders$Row"
  | 11 => .object "MindReaders$Row"
  | 12 => .object "MindReaders$Rows"
  | _ => .object "MindReaders$Readings"
abbrev wsX60 : List Cond := u_ws RX6 TX6 14
theorem nmX6 : ∀ a, a < 14 → ∀ b, b < 14 → a ≠ b → (TX6 a).2.1 ≠ (TX6 b).2.1 := by decide +kernel
theorem tyX6_ok : ∀ k, k < 14 → parseFieldDescriptor (TX6 k).2.2.1 = some (tyX6 k) := by decide +kernel
def RX7 : String := "MindReadersModel"
def TX7 : u_T := fun k => match k with
  | 0 => ("MindReadersModel", "page", "[I", true)
  | 1 => ("MindReadersModel", "pageMany", "I", false)
  | 2 => ("MindReadersModel", "readMany", "I", false)
  | 3 => ("MindReadersModel", "readLetters", "I", false)
  | 4 => ("MindReadersModel", "readRows", "[I", true)
  | 5 => ("MindReadersModel", "codes", "I", false)
  | 6 => ("MindReadersModel", "speeches", "[I", true)
  | 7 => ("MindReadersModel", "rows", "[I", true)
  | 8 => ("MindReadersModel", "signals", "I", false)
  | 9 => ("MindReadersModel", "signalRows", "[I", true)
  | 10 => ("MindReadersModel", "things", "I", false)
  | 11 => ("MindReadersModel", "weights", "[I", true)
  | 12 => ("MindReadersModel", "plain", "[I", true)
  | 13 => ("MindReadersModel", "plainMany", "I", false)
  | 14 => ("MindReadersModel", "plains", "[I", true)
  | 15 => ("MindReadersModel", "ahead", "[I", true)
  | 16 => ("MindReadersModel", "least", "I", false)
  | 17 => ("MindReadersModel", "heap", "[I", true)
  | 18 => ("MindReadersModel", "notes", "I", false)
  | 19 => ("MindReadersModel", "noteRows", "[I", true)
  | 20 => ("MindReadersModel", "ways", "[J", true)
  | 21 => ("MindReadersModel", "before", "[J", true)
  | 22 => ("MindReadersModel", "keptThings", "I", false)
  | 23 => ("MindReadersModel", "keptNotes", "I", false)
  | 24 => ("MindReadersModel", "keptWeights", "[I", true)
  | 25 => ("MindReadersModel", "keptRows", "[I", true)
  | _ => ("MindReadersModel", "hash", "J", false)
def tyX7 : Nat → FieldType := fun k => match k with
  | 0 => .array .int
  | 1 => .int
  | 2 => .int
  | 3 => .int
  | 4 => .array .int
  | 5 => .int
  | 6 => .array .int
  | 7 => .array .int
  | 8 => .int
  | 9 => .array .int
  | 10 => .int
  | 11 => .array .int
  | 12 => .array .int
  | 13 => .int
  | 14 => .array .int
  | 15 => .array .int
  | 16 => .int
  | 17 => .array .int
  | 18 => .int
  | 19 => .array .int
  | 20 => .array .long
  | 21 => .array .long
  | 22 => .int
  | 23 => .int
  | 24 => .array .int
  | 25 => .array .int
  | _ => .long
abbrev wsX70 : List Cond := u_ws RX7 TX7 27
theorem nmX7 : ∀ a, a < 27 → ∀ b, b < 27 → a ≠ b → (TX7 a).2.1 ≠ (TX7 b).2.1 := by decide +kernel
theorem tyX7_ok : ∀ k, k < 27 → parseFieldDescriptor (TX7 k).2.2.1 = some (tyX7 k) := by decide +kernel
def RJ6 : String := "java/lang/Integer"
def RJ9 : String := "java/lang/Math"
def RL : String := "MindReadersLaw"
end
section
/-! ===== a pure reading of the bytecode: values are whole numbers or places; a machine int is a number modulo 2^32 ===== -/
abbrev zV : Type := Int ⊕ (Int ⊕ Option Nat)
abbrev zH : Type := List (Nat × List zV)
abbrev zL : Type := List (Option zV)
abbrev zR : Type := Option zV × zH
abbrev zE : Type := Instr × List Nat × Int
/-- the number that a machine int, long stands for -/
def zw (x : Int) : Int := (x + 2147483648) % 4294967296 - 2147483648
def zwl (x : Int) : Int := (x + 9223372036854775808) % 18446744073709551616 - 9223372036854775808
/-- machine operations on bits -/
def zand (a b : Int) : Int := (Int32.ofInt a &&& Int32.ofInt b).toInt
def zor (a b : Int) : Int := (Int32.ofInt a ||| Int32.ofInt b).toInt
def zshl (a b : Int) : Int := (Int32.ofInt a <<< (Int32.ofInt b &&& 31)).toInt
def zshr (a b : Int) : Int := (Int32.ofInt a >>> (Int32.ofInt b &&& 31)).toInt
def zushr (a b : Int) : Int := ((Int32.ofInt a).toUInt32 >>> ((Int32.ofInt b).toUInt32 &&& Int32.toUInt32 31)).toInt32.toInt
def zandl (a b : Int) : Int := (Int64.ofInt a &&& Int64.ofInt b).toInt
def zorl (a b : Int) : Int := (Int64.ofInt a ||| Int64.ofInt b).toInt
def zshll (a b : Int) : Int := (Int64.ofInt a <<< ((Int32.ofInt b).toInt64 &&& 63)).toInt
def zushrl (a b : Int) : Int := ((Int64.ofInt a).toUInt64 >>> ((Int32.ofInt b).toInt64.toUInt64 &&& Int64.toUInt64 63)).toInt64.toInt
/-- reading and writing cells: place 0 is the script, place q + 1 the heap's cell q; a tag below 100 is a class, 100 int[], 101 long[], above: references -/
def zfd (h : zH) (r : Option Nat) (ci k : Nat) : Option zV := match r with
  | some (p + 1) => match h[p]? with
    | some c => if c.1 = ci then c.2[k]? else none
    | none => none
  | _ => none
def zgi (h : zH) (r : Option Nat) (ci k : Nat) (f : Int → Option zR) : Option zR := match zfd h r ci k with
  | some (.inl v) => f v
  | _ => none
def zgl (h : zH) (r : Option Nat) (ci k : Nat) (f : Int → Option zR) : Option zR := match zfd h r ci k with
  | some (.inr (.inl v)) => f v
  | _ => none
def zgr (h : zH) (r : Option Nat) (ci k : Nat) (f : Option Nat → Option zR) : Option zR := match zfd h r ci k with
  | some (.inr (.inr v)) => f v
  | _ => none
def zput (h : zH) (p k : Nat) (v : zV) : zH := match h[p]? with
  | some c => h.set p (c.1, c.2.set k v)
  | none => h
def zpf (h : zH) (r : Option Nat) (ci k : Nat) (v : zV) (f : zH → Option zR) : Option zR := match r with
  | some (p + 1) => match h[p]? with
    | some c => if c.1 = ci ∧ k < c.2.length then f (h.set p (c.1, c.2.set k v)) else none
    | none => none
  | _ => none
def zar (xs : List Int) (h : zH) (r : Option Nat) (tag : Nat) (i : Int) : Option zV := match r with
  | some 0 => if tag = 100 ∧ 0 ≤ zw i then (xs[(zw i).toNat]?).map .inl else none
  | some (p + 1) => match h[p]? with
    | some c => if c.1 = tag ∧ 0 ≤ zw i then c.2[(zw i).toNat]? else none
    | none => none
  | none => none
def zai (xs : List Int) (h : zH) (r : Option Nat) (i : Int) (f : Int → Option zR) : Option zR := match zar xs h r 100 i with
  | some (.inl v) => f v
  | _ => none
def zal (xs : List Int) (h : zH) (r : Option Nat) (i : Int) (f : Int → Option zR) : Option zR := match zar xs h r 101 i with
  | some (.inr (.inl v)) => f v
  | _ => none
def zaa (xs : List Int) (h : zH) (r : Option Nat) (tag : Nat) (i : Int) (f : Option Nat → Option zR) : Option zR := match zar xs h r tag i with
  | some (.inr (.inr v)) => f v
  | _ => none
def zst (h : zH) (r : Option Nat) (tag : Nat) (i : Int) (v : zV) (f : zH → Option zR) : Option zR := match r with
  | some (p + 1) => match h[p]? with
    | some c => if c.1 = tag ∧ 0 ≤ zw i ∧ (zw i).toNat < c.2.length then f (h.set p (c.1, c.2.set (zw i).toNat v)) else none
    | none => none
  | _ => none
def zln (xs : List Int) (h : zH) (r : Option Nat) (f : Int → Option zR) : Option zR := match r with
  | some 0 => f xs.length
  | some (p + 1) => match h[p]? with
    | some c => if 100 ≤ c.1 then f c.2.length else none
    | none => none
  | none => none
def zro (r : Option Nat) (f : Nat → Option zR) : Option zR := match r with
  | some p => f p
  | none => none
def zif (r : Option Nat) (a : Option zR) (b : Option zR) : Option zR := match r with
  | none => a
  | some _ => b
def zci (o : Option zR) (f : Int → zH → Option zR) : Option zR := match o with
  | some (some (.inl v), h) => f v h
  | _ => none
def zcl (o : Option zR) (f : Int → zH → Option zR) : Option zR := match o with
  | some (some (.inr (.inl v)), h) => f v h
  | _ => none
def zcr (o : Option zR) (f : Option Nat → zH → Option zR) : Option zR := match o with
  | some (some (.inr (.inr v)), h) => f v h
  | _ => none
def zcv (o : Option zR) (f : zH → Option zR) : Option zR := match o with
  | some (none, h) => f h
  | _ => none
/-- the locals -/
def zcat (v : zV) : Nat := match v with
  | .inr (.inl _) => 2
  | _ => 1
def zargs : List zV → zL
  | [] => []
  | .inr (.inl x) :: t => some (.inr (.inl x)) :: none :: zargs t
  | .inl x :: t => some (.inl x) :: zargs t
  | .inr (.inr x) :: t => some (.inr (.inr x)) :: zargs t
def zkeep : List Nat → zL → zL
  | [], _ => []
  | _ :: _, [] => []
  | 0 :: m, _ :: t => none :: zkeep m t
  | (_ + 1) :: m, v :: t => v :: zkeep m t
/-- L with place i set; a long that stood one place before is lost -/
def zset1 : zL → Nat → Option zV → zL
  | [], 0, v => [v]
  | [], i + 1, v => none :: zset1 [] i v
  | _ :: t, 0, v => v :: t
  | some (.inr (.inl _)) :: t, 1, v => none :: zset1 t 0 v
  | a :: t, i + 1, v => a :: zset1 t i v
def zset2 : zL → Nat → Option zV → zL
  | [], 0, v => [v, none]
  | [], i + 1, v => none :: zset2 [] i v
  | [_], 0, v => [v, none]
  | _ :: _ :: t, 0, v => v :: none :: t
  | some (.inr (.inl _)) :: t, 1, v => none :: zset2 t 0 v
  | a :: t, i + 1, v => a :: zset2 t i v
def zld (L : zL) (i : Nat) : Option zV := match L[i]? with
  | some (some v) => some v
  | _ => none
/-- one instruction that neither jumps nor calls: what it leaves goes to k -/
def zS (xs : List Int) (I : Instr) (x : List Nat) (c : Int) (L : zL) (st : List zV) (h : zH) (k : zL → List zV → zH → Option zR) : Option zR := match I with
  | .iconst n => k L (.inl n :: st) h
  | .bipush n => k L (.inl n :: st) h
  | .sipush n => k L (.inl n :: st) h
  | .ldc _ => k L (.inl c :: st) h
  | .ldc_w _ => k L (.inl c :: st) h
  | .lconst n => k L (.inr (.inl ((n : Nat) : Int)) :: st) h
  | .ldc2_w _ => k L (.inr (.inl c) :: st) h
  | .aconst_null => k L (.inr (.inr none) :: st) h
  | .iload i => match zld L i with | some (.inl v) => k L (.inl v :: st) h | _ => none
  | .iload_n i => match zld L i with | some (.inl v) => k L (.inl v :: st) h | _ => none
  | .lload i => match zld L i with | some (.inr (.inl v)) => k L (.inr (.inl v) :: st) h | _ => none
  | .lload_n i => match zld L i with | some (.inr (.inl v)) => k L (.inr (.inl v) :: st) h | _ => none
  | .aload i => match zld L i with | some (.inr (.inr v)) => k L (.inr (.inr v) :: st) h | _ => none
  | .aload_n i => match zld L i with | some (.inr (.inr v)) => k L (.inr (.inr v) :: st) h | _ => none
  | .istore i => match st with | .inl v :: st => k (zset1 L i (some (.inl v))) st h | _ => none
  | .istore_n i => match st with | .inl v :: st => k (zset1 L i (some (.inl v))) st h | _ => none
  | .lstore i => match st with | .inr (.inl v) :: st => k (zset2 L i (some (.inr (.inl v)))) st h | _ => none
  | .lstore_n i => match st with | .inr (.inl v) :: st => k (zset2 L i (some (.inr (.inl v)))) st h | _ => none
  | .astore i => match st with | .inr (.inr v) :: st => k (zset1 L i (some (.inr (.inr v)))) st h | _ => none
  | .astore_n i => match st with | .inr (.inr v) :: st => k (zset1 L i (some (.inr (.inr v)))) st h | _ => none
  | .iinc i n => match zld L i with | some (.inl v) => k (zset1 L i (some (.inl (v + n)))) st h | _ => none
  | .iadd => match st with | .inl b :: .inl a :: st => k L (.inl (a + b) :: st) h | _ => none
  | .isub => match st with | .inl b :: .inl a :: st => k L (.inl (a - b) :: st) h | _ => none
  | .imul => match st with | .inl b :: .inl a :: st => k L (.inl (a * b) :: st) h | _ => none
  | .ineg => match st with | .inl a :: st => k L (.inl (-a) :: st) h | _ => none
  | .idiv => match st with | .inl b :: .inl a :: st => if zw b = 0 then none else k L (.inl ((zw a).tdiv (zw b)) :: st) h | _ => none
  | .irem => match st with | .inl b :: .inl a :: st => if zw b = 0 then none else k L (.inl ((zw a).tmod (zw b)) :: st) h | _ => none
  | .iand => match st with | .inl b :: .inl a :: st => k L (.inl (zand a b) :: st) h | _ => none
  | .ior => match st with | .inl b :: .inl a :: st => k L (.inl (zor a b) :: st) h | _ => none
  | .ishl => match st with | .inl b :: .inl a :: st => k L (.inl (zshl a b) :: st) h | _ => none
  | .ishr => match st with | .inl b :: .inl a :: st => k L (.inl (zshr a b) :: st) h | _ => none
  | .iushr => match st with | .inl b :: .inl a :: st => k L (.inl (zushr a b) :: st) h | _ => none
  | .i2l => match st with | .inl a :: st => k L (.inr (.inl (zw a)) :: st) h | _ => none
  | .l2i => match st with | .inr (.inl a) :: st => k L (.inl a :: st) h | _ => none
  | .ladd => match st with | .inr (.inl b) :: .inr (.inl a) :: st => k L (.inr (.inl (a + b)) :: st) h | _ => none
  | .lsub => match st with | .inr (.inl b) :: .inr (.inl a) :: st => k L (.inr (.inl (a - b)) :: st) h | _ => none
  | .lmul => match st with | .inr (.inl b) :: .inr (.inl a) :: st => k L (.inr (.inl (a * b)) :: st) h | _ => none
  | .lneg => match st with | .inr (.inl a) :: st => k L (.inr (.inl (-a)) :: st) h | _ => none
  | .ldiv => match st with | .inr (.inl b) :: .inr (.inl a) :: st => if zwl b = 0 then none else k L (.inr (.inl ((zwl a).tdiv (zwl b))) :: st) h | _ => none
  | .lrem => match st with | .inr (.inl b) :: .inr (.inl a) :: st => if zwl b = 0 then none else k L (.inr (.inl ((zwl a).tmod (zwl b))) :: st) h | _ => none
  | .land => match st with | .inr (.inl b) :: .inr (.inl a) :: st => k L (.inr (.inl (zandl a b)) :: st) h | _ => none
  | .lor => match st with | .inr (.inl b) :: .inr (.inl a) :: st => k L (.inr (.inl (zorl a b)) :: st) h | _ => none
  | .lshl => match st with | .inl b :: .inr (.inl a) :: st => k L (.inr (.inl (zshll a b)) :: st) h | _ => none
  | .lushr => match st with | .inl b :: .inr (.inl a) :: st => k L (.inr (.inl (zushrl a b)) :: st) h | _ => none
  | .lcmp => match st with | .inr (.inl b) :: .inr (.inl a) :: st => k L (.inl (if zwl a < zwl b then -1 else if zwl a = zwl b then 0 else 1) :: st) h | _ => none
  | .dup => match st with | .inl a :: st => k L (.inl a :: .inl a :: st) h | .inr (.inr a) :: st => k L (.inr (.inr a) :: .inr (.inr a) :: st) h | _ => none
  | .dup2 => match st with | .inl b :: .inr (.inr a) :: st => k L (.inl b :: .inr (.inr a) :: .inl b :: .inr (.inr a) :: st) h | _ => none
  | .pop => match st with | .inl _ :: st => k L st h | .inr (.inr _) :: st => k L st h | _ => none
  | .getfield _ => match x, st with
    | [ci, j, 0], .inr (.inr r) :: st => zgi h r ci j fun v => k L (.inl v :: st) h
    | [ci, j, 1], .inr (.inr r) :: st => zgl h r ci j fun v => k L (.inr (.inl v) :: st) h
    | [ci, j, 2], .inr (.inr r) :: st => zgr h r ci j fun v => k L (.inr (.inr v) :: st) h
    | _, _ => none
  | .putfield _ => match x, st with
    | [ci, j, 0], .inl v :: .inr (.inr r) :: st => zpf h r ci j (.inl v) fun h => k L st h
    | [ci, j, 1], .inr (.inl v) :: .inr (.inr r) :: st => zpf h r ci j (.inr (.inl v)) fun h => k L st h
    | [ci, j, 2], .inr (.inr v) :: .inr (.inr r) :: st => zpf h r ci j (.inr (.inr v)) fun h => k L st h
    | [ci, j, 3], .inl v :: .inr (.inr r) :: st => if v = 0 ∨ v = 1 then zpf h r ci j (.inl v) fun h => k L st h else none
    | _, _ => none
  | .iaload => match st with | .inl i :: .inr (.inr r) :: st => zai xs h r i fun v => k L (.inl v :: st) h | _ => none
  | .laload => match st with | .inl i :: .inr (.inr r) :: st => zal xs h r i fun v => k L (.inr (.inl v) :: st) h | _ => none
  | .aaload => match x, st with | [tag], .inl i :: .inr (.inr r) :: st => zaa xs h r tag i fun v => k L (.inr (.inr v) :: st) h | _, _ => none
  | .iastore => match st with | .inl v :: .inl i :: .inr (.inr r) :: st => zst h r 100 i (.inl v) fun h => k L st h | _ => none
  | .lastore => match st with | .inr (.inl v) :: .inl i :: .inr (.inr r) :: st => zst h r 101 i (.inr (.inl v)) fun h => k L st h | _ => none
  | .aastore => match x, st with | [tag, ci], .inr (.inr (some v)) :: .inl i :: .inr (.inr r) :: st => (match v with | 0 => none | q + 1 => match h[q]? with | some c => if c.1 = ci then zst h r tag i (.inr (.inr (some (q + 1)))) fun h => k L st h else none | none => none) | _, _ => none
  | .arraylength => match st with | .inr (.inr r) :: st => zln xs h r fun v => k L (.inl v :: st) h | _ => none
  | .new _ => match x with
    | ci :: tys => k L (.inr (.inr (some (h.length + 1))) :: st) (h ++ [(ci, tys.map fun t => match t with | 0 => .inl 0 | 1 => .inr (.inl 0) | _ => .inr (.inr none))])
    | _ => none
  | .newarray _ => match x, st with
    | [0], .inl n :: st => if 0 ≤ zw n ∧ zw n ≤ 1000000 then k L (.inr (.inr (some (h.length + 1))) :: st) (h ++ [(100, List.replicate (zw n).toNat (.inl 0))]) else none
    | [1], .inl n :: st => if 0 ≤ zw n ∧ zw n ≤ 1000000 then k L (.inr (.inr (some (h.length + 1))) :: st) (h ++ [(101, List.replicate (zw n).toNat (.inr (.inl 0)))]) else none
    | _, _ => none
  | .anewarray _ => match x, st with
    | [tag], .inl n :: st => if 0 ≤ zw n ∧ zw n ≤ 1000000 then k L (.inr (.inr (some (h.length + 1))) :: st) (h ++ [(tag, List.replicate (zw n).toNat (.inr (.inr none)))]) else none
    | _, _ => none
  | _ => none
/-- a jump: the locals that live on -/
def zJ (rec : Nat → zL → List zV → zH → Option zR) (x : List Nat) (L : zL) (st : List zV) (h : zH) : Option zR := match x with
  | t :: m => rec t (zkeep m L) st h
  | [] => none
def zY (t : Nat) (o : Option zR) (L : zL) (st : List zV) (k : zL → List zV → zH → Option zR) : Option zR := match t with
  | 0 => zcv o fun h => k L st h
  | 1 => zci o fun v h => k L (.inl v :: st) h
  | 2 => zcl o fun v h => k L (.inr (.inl v) :: st) h
  | 3 => zcr o fun v h => k L (.inr (.inr v) :: st) h
  | _ => none
def zrcv (l : List zV) : Option Nat := match l with
  | .inr (.inr r) :: _ => r
  | _ => none
/-- the receiver is an object of that class -/
def zck (h : zH) (r : Option Nat) (ci : Nat) (o : Option zR) : Option zR := match r with
  | some (p + 1) => match h[p]? with
    | some c => if c.1 = ci then o else none
    | none => none
  | _ => none
def zX (rec : Nat → Nat → zL → List zV → zH → Option zR) (x : List Nat) (L : zL) (st : List zV) (h : zH) (k : zL → List zV → zH → Option zR) : Option zR := match x with
  | [m, n, t, mx] => if n ≤ st.length ∧ st.length ≤ n + 4 ∧ (zargs (st.take n).reverse).length ≤ mx then zY t (rec m 0 (zargs (st.take n).reverse) [] h) L (st.drop n) k else none
  | [m, n, t, mx, ci] => if n ≤ st.length ∧ st.length ≤ n + 4 ∧ (zargs (st.take n).reverse).length ≤ mx then zck h (zrcv (st.take n).reverse) ci (zY t (rec m 0 (zargs (st.take n).reverse) [] h) L (st.drop n) k) else none
  | _ => none
/-- one instruction -/
def zI (xs : List Int) (rec : Nat → Nat → zL → List zV → zH → Option zR) (m : Nat) (I : Instr) (x : List Nat) (c : Int) (L : zL) (st : List zV) (h : zH) (k : zL → List zV → zH → Option zR) : Option zR := match I with
  | .nop => zJ (rec m) x L st h
  | .goto _ => zJ (rec m) x L st h
  | .ifCond .eq _ => match st with | .inl a :: st => if zw a = 0 then zJ (rec m) x L st h else k L st h | _ => none
  | .ifCond .ne _ => match st with | .inl a :: st => if zw a ≠ 0 then zJ (rec m) x L st h else k L st h | _ => none
  | .ifCond .lt _ => match st with | .inl a :: st => if zw a < 0 then zJ (rec m) x L st h else k L st h | _ => none
  | .ifCond .ge _ => match st with | .inl a :: st => if 0 ≤ zw a then zJ (rec m) x L st h else k L st h | _ => none
  | .ifCond .gt _ => match st with | .inl a :: st => if 0 < zw a then zJ (rec m) x L st h else k L st h | _ => none
  | .ifCond .le _ => match st with | .inl a :: st => if zw a ≤ 0 then zJ (rec m) x L st h else k L st h | _ => none
  | .if_icmp .eq _ => match st with | .inl b :: .inl a :: st => if zw a = zw b then zJ (rec m) x L st h else k L st h | _ => none
  | .if_icmp .ne _ => match st with | .inl b :: .inl a :: st => if zw a ≠ zw b then zJ (rec m) x L st h else k L st h | _ => none
  | .if_icmp .lt _ => match st with | .inl b :: .inl a :: st => if zw a < zw b then zJ (rec m) x L st h else k L st h | _ => none
  | .if_icmp .ge _ => match st with | .inl b :: .inl a :: st => if zw b ≤ zw a then zJ (rec m) x L st h else k L st h | _ => none
  | .if_icmp .gt _ => match st with | .inl b :: .inl a :: st => if zw b < zw a then zJ (rec m) x L st h else k L st h | _ => none
  | .if_icmp .le _ => match st with | .inl b :: .inl a :: st => if zw a ≤ zw b then zJ (rec m) x L st h else k L st h | _ => none
  | .ifnull _ => match st with | .inr (.inr r) :: st => zif r (zJ (rec m) x L st h) (k L st h) | _ => none
  | .ifnonnull _ => match st with | .inr (.inr r) :: st => zif r (k L st h) (zJ (rec m) x L st h) | _ => none
  | .tableswitch _ lo hi _ => match x, st with
    | n :: d :: x, .inl a :: st => if zw a < lo ∨ hi < zw a then rec m d (zkeep (x.take n) L) st h else match (x.drop n)[(zw a - lo).toNat]? with
      | some t => rec m t (zkeep (x.take n) L) st h
      | none => none
    | _, _ => none
  | .ireturn => match x, st with
    | [0], [.inl a] => some (some (.inl a), h)
    | [1], [.inl a] => if a = 0 ∨ a = 1 then some (some (.inl a), h) else none
    | _, _ => none
  | .lreturn => match st with | [.inr (.inl a)] => some (some (.inr (.inl a)), h) | _ => none
  | .areturn => match st with | [.inr (.inr a)] => some (some (.inr (.inr a)), h) | _ => none
  | .return_ => match st with | [] => some (none, h) | _ => none
  | .invokevirtual _ => zX rec x L st h k
  | .invokestatic _ => zX rec x L st h k
  | .invokespecial _ => match x with
    | [] => match st with | [.inr (.inr (some _))] => k L [] h | _ => none
    | x => zX rec x L st h k
  | I => zS xs I x c L st h k
def zB (xs : List Int) (rec : Nat → Nat → zL → List zV → zH → Option zR) (m : Nat) : List zE → zL → List zV → zH → Option zR
  | [], _, _, _ => none
  | (I, x, c) :: t, L, st, h => zI xs rec m I x c L st h (zB xs rec m t)
end
section
/-! ===== what a reading comes to, with no bound on its steps ===== -/
def zrun (B : Nat → Nat → Option (List zE)) (xs : List Int) : Nat → Nat → Nat → zL → List zV → zH → Option zR
  | 0, _, _, _, _, _ => none
  | n + 1, m, pc, L, st, h => match B m pc with
    | some b => zB xs (zrun B xs n) m b L st h
    | none => none
noncomputable def zx (B : Nat → Nat → Option (List zE)) (xs : List Int) (m pc : Nat) (L : zL) (st : List zV) (h : zH) : Option zR :=
  @dite _ (∃ r n, zrun B xs n m pc L st h = some r) (Classical.propDecidable _) (fun q => some (Classical.choose q)) (fun _ => none)
/-- the heap grows -/
def zsz : zH → Nat
  | [] => 0
  | c :: t => c.2.length + zsz t
def zge (h h' : zH) : Prop := h.length ≤ h'.length ∧ zsz h ≤ zsz h'
theorem zge_rf (h : zH) : zge h h := ⟨Nat.le_refl _, Nat.le_refl _⟩
theorem zge_tr {a b c : zH} (h1 : zge a b) (h2 : zge b c) : zge a c := ⟨Nat.le_trans h1.1 h2.1, Nat.le_trans h1.2 h2.2⟩
theorem zsz_app (a b : zH) : zsz (a ++ b) = zsz a + zsz b := by
  induction a with
  | nil => simp [zsz]
  | cons c t ih => simp [zsz, ih]; omega
theorem zsz_set : ∀ (h : zH) (p : Nat) (c c' : Nat × List zV), h[p]? = some c → c'.2.length = c.2.length → zsz (h.set p c') = zsz h
  | [], p, c, c', q, _ => by simp at q
  | d :: t, 0, c, c', q, e => by
    simp at q
    subst q
    simp [zsz, e]
  | d :: t, p + 1, c, c', q, e => by
    simp at q
    simp [zsz, zsz_set t p c c' q e]
theorem zge_set {h : zH} {p : Nat} {c c' : Nat × List zV} (q : h[p]? = some c) (e : c'.2.length = c.2.length) : zge h (h.set p c') := ⟨by simp, Nat.le_of_eq (zsz_set h p c c' q e).symm⟩
theorem zge_app (h : zH) (c : Nat × List zV) : zge h (h ++ [c]) := ⟨by simp, by rw [zsz_app]; omega⟩
/-- a step that passes on at most one state, whatever it is passed to -/
def zlin (h0 : zH) (F : (zL → List zV → zH → Option zR) → Option zR) : Prop := (∀ k, F k = none) ∨ ∃ L' st' h', zge h0 h' ∧ ∀ k, F k = k L' st' h'
theorem zlin_none {h0 : zH} : zlin h0 (fun _ => none) := Or.inl fun _ => rfl
theorem zlin_k (L : zL) (st : List zV) (h : zH) : zlin h (fun k => k L st h) := Or.inr ⟨L, st, h, zge_rf h, fun _ => rfl⟩
theorem zlin_kg {h0 : zH} (L : zL) (st : List zV) (h : zH) (hg : zge h0 h) : zlin h0 (fun k => k L st h) := Or.inr ⟨L, st, h, hg, fun _ => rfl⟩
theorem zlin_if {h0 : zH} {c : Prop} [Decidable c] {F G : (zL → List zV → zH → Option zR) → Option zR} (hF : zlin h0 F) (hG : zlin h0 G) : zlin h0 (fun k => if c then F k else G k) := by
  by_cases hc : c
  · simp only [hc, if_true]; exact hF
  · simp only [hc, if_false]; exact hG
theorem zlin_gi (h : zH) (r : Option Nat) (ci j : Nat) (f : (zL → List zV → zH → Option zR) → Int → Option zR) (hf : ∀ v, zlin h (fun k => f k v)) : zlin h (fun k => zgi h r ci j (f k)) := by
  unfold zgi; rcases zfd h r ci j with _ | v | v | v <;> first | exact zlin_none | exact hf v
theorem zlin_gl (h : zH) (r : Option Nat) (ci j : Nat) (f : (zL → List zV → zH → Option zR) → Int → Option zR) (hf : ∀ v, zlin h (fun k => f k v)) : zlin h (fun k => zgl h r ci j (f k)) := by
  unfold zgl; rcases zfd h r ci j with _ | v | v | v <;> first | exact zlin_none | exact hf v
theorem zlin_gr (h : zH) (r : Option Nat) (ci j : Nat) (f : (zL → List zV → zH → Option zR) → Option Nat → Option zR) (hf : ∀ v, zlin h (fun k => f k v)) : zlin h (fun k => zgr h r ci j (f k)) := by
  unfold zgr; rcases zfd h r ci j with _ | v | v | v <;> first | exact zlin_none | exact hf v
theorem zlin_pf (h : zH) (r : Option Nat) (ci j : Nat) (v : zV) (f : (zL → List zV → zH → Option zR) → zH → Option zR) (hf : ∀ v, zge h v → zlin h (fun k => f k v)) : zlin h (fun k => zpf h r ci j v (f k)) := by
  unfold zpf
  rcases r with _ | _ | p
  · exact zlin_none
  · exact zlin_none
  · dsimp only
    cases hc : h[p]? with
    | none => exact zlin_none
    | some c => exact zlin_if (hf _ (zge_set hc (by simp))) zlin_none
theorem zlin_ai (xs : List Int) (h : zH) (r : Option Nat) (i : Int) (f : (zL → List zV → zH → Option zR) → Int → Option zR) (hf : ∀ v, zlin h (fun k => f k v)) : zlin h (fun k => zai xs h r i (f k)) := by
  unfold zai; rcases zar xs h r 100 i with _ | v | v | v <;> first | exact zlin_none | exact hf v
theorem zlin_al (xs : List Int) (h : zH) (r : Option Nat) (i : Int) (f : (zL → List zV → zH → Option zR) → Int → Option zR) (hf : ∀ v, zlin h (fun k => f k v)) : zlin h (fun k => zal xs h r i (f k)) := by
  unfold zal; rcases zar xs h r 101 i with _ | v | v | v <;> first | exact zlin_none | exact hf v
theorem zlin_aa (xs : List Int) (h : zH) (r : Option Nat) (tag : Nat) (i : Int) (f : (zL → List zV → zH → Option zR) → Option Nat → Option zR) (hf : ∀ v, zlin h (fun k => f k v)) : zlin h (fun k => zaa xs h r tag i (f k)) := by
  unfold zaa; rcases zar xs h r tag i with _ | v | v | v <;> first | exact zlin_none | exact hf v
theorem zlin_st (h : zH) (r : Option Nat) (tag : Nat) (i : Int) (v : zV) (f : (zL → List zV → zH → Option zR) → zH → Option zR) (hf : ∀ v, zge h v → zlin h (fun k => f k v)) : zlin h (fun k => zst h r tag i v (f k)) := by
  unfold zst
  rcases r with _ | _ | p
  · exact zlin_none
  · exact zlin_none
  · dsimp only
    cases hc : h[p]? with
    | none => exact zlin_none
    | some c => exact zlin_if (hf _ (zge_set hc (by simp))) zlin_none
theorem zlin_ln (xs : List Int) (h : zH) (r : Option Nat) (f : (zL → List zV → zH → Option zR) → Int → Option zR) (hf : ∀ v, zlin h (fun k => f k v)) : zlin h (fun k => zln xs h r (f k)) := by
  unfold zln
  rcases r with _ | _ | p
  · exact zlin_none
  · exact hf _
  · dsimp only
    cases h[p]? with
    | none => exact zlin_none
    | some c => exact zlin_if (hf _) zlin_none
theorem zS_lin (xs : List Int) (I : Instr) (x : List Nat) (c : Int) (L : zL) (st : List zV) (h : zH) : zlin h (fun k => zS xs I x c L st h k) := by
  cases I
  case iload i => simp only [zS]; rcases zld L i with _ | v | v | v <;> first | exact zlin_none | exact zlin_k _ _ _
  case iload_n i => simp only [zS]; rcases zld L i with _ | v | v | v <;> first | exact zlin_none | exact zlin_k _ _ _
  case lload i => simp only [zS]; rcases zld L i with _ | v | v | v <;> first | exact zlin_none | exact zlin_k _ _ _
  case lload_n i => simp only [zS]; rcases zld L i with _ | v | v | v <;> first | exact zlin_none | exact zlin_k _ _ _
  case aload i => simp only [zS]; rcases zld L i with _ | v | v | v <;> first | exact zlin_none | exact zlin_k _ _ _
  case aload_n i => simp only [zS]; rcases zld L i with _ | v | v | v <;> first | exact zlin_none | exact zlin_k _ _ _
  case iinc i n => simp only [zS]; rcases zld L i with _ | v | v | v <;> first | exact zlin_none | exact zlin_k _ _ _
  case getfield i =>
    rcases x with _ | ⟨ci, _ | ⟨j, _ | ⟨_ | _ | _ | ty, _ | ⟨x4, x⟩⟩⟩⟩ <;> rcases st with _ | ⟨a | a | a, st⟩ <;> first | exact zlin_none | exact zlin_gi _ _ _ _ _ fun v => zlin_k _ _ _ | exact zlin_gl _ _ _ _ _ fun v => zlin_k _ _ _ | exact zlin_gr _ _ _ _ _ fun v => zlin_k _ _ _
  case putfield i =>
    rcases x with _ | ⟨ci, _ | ⟨j, _ | ⟨_ | _ | _ | _ | ty, _ | ⟨x4, x⟩⟩⟩⟩ <;> rcases st with _ | ⟨a | a | a, _ | ⟨b | b | b, st⟩⟩ <;> first | exact zlin_none | exact zlin_pf _ _ _ _ _ _ fun v hv => zlin_kg _ _ _ hv | exact zlin_if (zlin_pf _ _ _ _ _ _ fun v hv => zlin_kg _ _ _ hv) zlin_none
  case iaload => rcases st with _ | ⟨a | a | a, _ | ⟨b | b | b, st⟩⟩ <;> first | exact zlin_none | exact zlin_ai _ _ _ _ _ fun v => zlin_k _ _ _
  case laload => rcases st with _ | ⟨a | a | a, _ | ⟨b | b | b, st⟩⟩ <;> first | exact zlin_none | exact zlin_al _ _ _ _ _ fun v => zlin_k _ _ _
  case aaload => rcases x with _ | ⟨t, _ | ⟨t2, x⟩⟩ <;> rcases st with _ | ⟨a | a | a, _ | ⟨b | b | b, st⟩⟩ <;> first | exact zlin_none | exact zlin_aa _ _ _ _ _ _ fun v => zlin_k _ _ _
  case iastore => rcases st with _ | ⟨a | a | a, _ | ⟨b | b | b, _ | ⟨d | d | d, st⟩⟩⟩ <;> first | exact zlin_none | exact zlin_st _ _ _ _ _ _ fun v hv => zlin_kg _ _ _ hv
  case lastore => rcases st with _ | ⟨a | a | a, _ | ⟨b | b | b, _ | ⟨d | d | d, st⟩⟩⟩ <;> first | exact zlin_none | exact zlin_st _ _ _ _ _ _ fun v hv => zlin_kg _ _ _ hv
  case aastore =>
    rcases x with _ | ⟨t, _ | ⟨t2, _ | ⟨t3, x⟩⟩⟩ <;> rcases st with _ | ⟨a | a | (_ | _ | a), _ | ⟨b | b | b, _ | ⟨d | d | d, st⟩⟩⟩ <;> first | exact zlin_none | skip
    simp only [zS]
    cases h[a]? with
    | none => exact zlin_none
    | some c => exact zlin_if (zlin_st _ _ _ _ _ _ fun v hv => zlin_kg _ _ _ hv) zlin_none
  case arraylength => rcases st with _ | ⟨a | a | a, st⟩ <;> first | exact zlin_none | exact (show zlin h (fun k => zln xs h a fun v => k L (.inl v :: st) h) from zlin_ln _ _ _ (fun k v => k L (.inl v :: st) h) fun v => zlin_k _ _ _)
  case new i => rcases x with _ | ⟨t, x⟩ <;> first | exact zlin_none | exact zlin_kg _ _ _ (zge_app _ _)
  case newarray i =>
    rcases x with _ | ⟨_ | _ | t, _ | ⟨t2, x⟩⟩ <;> rcases st with _ | ⟨a | a | a, st⟩ <;> first | exact zlin_none | exact zlin_if (zlin_kg _ _ _ (zge_app _ _)) zlin_none
  case anewarray i =>
    rcases x with _ | ⟨t, _ | ⟨t2, x⟩⟩ <;> rcases st with _ | ⟨a | a | a, st⟩ <;> first | exact zlin_none | exact zlin_if (zlin_kg _ _ _ (zge_app _ _)) zlin_none
  all_goals first
    | exact zlin_none
    | exact zlin_k _ _ _
    | (rcases st with _ | ⟨a | a | a, st⟩ <;> first | exact zlin_none | exact zlin_k _ _ _ | (rcases st with _ | ⟨b | b | b, st⟩ <;> first | exact zlin_none | exact zlin_k _ _ _ | exact zlin_if zlin_none (zlin_k _ _ _)))

/-- what a bounded reading gives, a longer one gives; what the limit gives, a bounded one gives -/
theorem zcont_J (B : Nat → Nat → Option (List zE)) (R : Nat → Nat → Nat → zL → List zV → zH → Option zR) (R0 : Nat → Nat → zL → List zV → zH → Option zR) (hR : ∀ m pc L st h r, R0 m pc L st h = some r → ∃ N, ∀ n, N ≤ n → R n m pc L st h = some r)
    (m : Nat) (x : List Nat) (L : zL) (st : List zV) (h : zH) (r : zR) (q : zJ (R0 m) x L st h = some r) : ∃ N, ∀ n, N ≤ n → zJ (R n m) x L st h = some r := by
  rcases x with _ | ⟨t, x⟩
  · cases q
  · exact hR _ _ _ _ _ _ q
theorem zcont_if {c : Prop} [Decidable c] {a0 b0 : Option zR} {a b : Nat → Option zR} {r : zR} (ha : a0 = some r → ∃ N, ∀ n, N ≤ n → a n = some r) (hb : b0 = some r → ∃ N, ∀ n, N ≤ n → b n = some r) (q : (if c then a0 else b0) = some r) : ∃ N, ∀ n, N ≤ n → (if c then a n else b n) = some r := by
  by_cases hc : c
  · rw [if_pos hc] at q
    obtain ⟨N, e⟩ := ha q
    exact ⟨N, fun n hn => by rw [if_pos hc]; exact e n hn⟩
  · rw [if_neg hc] at q
    obtain ⟨N, e⟩ := hb q
    exact ⟨N, fun n hn => by rw [if_neg hc]; exact e n hn⟩
theorem zcont_Y {o0 : Option zR} {o : Nat → Option zR} (ho : ∀ r1, o0 = some r1 → ∃ N, ∀ n, N ≤ n → o n = some r1) (t : Nat) (L : zL) (st : List zV) (k0 : zL → List zV → zH → Option zR) (k : Nat → zL → List zV → zH → Option zR) (r : zR) (hk : ∀ L' st' h', k0 L' st' h' = some r → ∃ N, ∀ n, N ≤ n → k n L' st' h' = some r)
    (q : zY t o0 L st k0 = some r) : ∃ N, ∀ n, N ≤ n → zY t (o n) L st (k n) = some r := by
  cases h1 : o0 with
  | none => rcases t with _ | _ | _ | _ | t <;> rw [h1] at q <;> cases q
  | some r1 =>
    obtain ⟨N1, e1⟩ := ho r1 h1
    rw [h1] at q
    obtain ⟨v, h2⟩ := r1
    rcases t with _ | _ | _ | _ | t <;> rcases v with _ | v | v | v <;> simp only [zY, zcv, zci, zcl, zcr] at q <;> first
      | (cases q; done)
      | (obtain ⟨N2, e2⟩ := hk _ _ _ q
         refine ⟨max N1 N2, fun n' hn' => ?_⟩
         rw [e1 n' (by omega)]
         exact e2 n' (by omega))
theorem zcont_ck {o0 : Option zR} {o : Nat → Option zR} {r : zR} (ho : o0 = some r → ∃ N, ∀ n, N ≤ n → o n = some r) (h : zH) (rr : Option Nat) (ci : Nat) (q : zck h rr ci o0 = some r) : ∃ N, ∀ n, N ≤ n → zck h rr ci (o n) = some r := by
  unfold zck at q ⊢
  rcases rr with _ | _ | p
  · cases q
  · cases q
  · dsimp only at q ⊢
    cases hc : h[p]? with
    | none => rw [hc] at q; cases q
    | some c =>
      rw [hc] at q
      exact zcont_if ho (fun q => by cases q) q
theorem zcont_X (R : Nat → Nat → Nat → zL → List zV → zH → Option zR) (R0 : Nat → Nat → zL → List zV → zH → Option zR) (hR : ∀ m pc L st h r, R0 m pc L st h = some r → ∃ N, ∀ n, N ≤ n → R n m pc L st h = some r)
    (x : List Nat) (L : zL) (st : List zV) (h : zH) (k0 : zL → List zV → zH → Option zR) (k : Nat → zL → List zV → zH → Option zR) (r : zR) (hk : ∀ L' st' h', k0 L' st' h' = some r → ∃ N, ∀ n, N ≤ n → k n L' st' h' = some r)
    (q : zX R0 x L st h k0 = some r) : ∃ N, ∀ n, N ≤ n → zX (R n) x L st h (k n) = some r := by
  rcases x with _ | ⟨m, _ | ⟨n, _ | ⟨t, _ | ⟨mx, _ | ⟨t2, _ | ⟨t3, x⟩⟩⟩⟩⟩⟩
  · cases q
  · cases q
  · cases q
  · cases q
  · exact zcont_if (zcont_Y (fun r1 q1 => hR _ _ _ _ _ _ q1) t L _ k0 k r hk) (fun q => by cases q) q
  · exact zcont_if (zcont_ck (zcont_Y (fun r1 q1 => hR _ _ _ _ _ _ q1) t L _ k0 k r hk) h _ _) (fun q => by cases q) q
  · cases q
theorem zcont_lin {h0 : zH} {F : (zL → List zV → zH → Option zR) → Option zR} (hF : zlin h0 F) {k0 : zL → List zV → zH → Option zR} {k : Nat → zL → List zV → zH → Option zR} {r : zR} (hk : ∀ L' st' h', k0 L' st' h' = some r → ∃ N, ∀ n, N ≤ n → k n L' st' h' = some r) (q : F k0 = some r) : ∃ N, ∀ n, N ≤ n → F (k n) = some r := by
  rcases hF with hF | ⟨L', st', h', -, hF⟩
  · rw [hF] at q; cases q
  · rw [hF] at q
    obtain ⟨N, e⟩ := hk _ _ _ q
    exact ⟨N, fun n hn => by rw [hF]; exact e n hn⟩
theorem zcont_I (xs : List Int) (R : Nat → Nat → Nat → zL → List zV → zH → Option zR) (R0 : Nat → Nat → zL → List zV → zH → Option zR) (hR : ∀ m pc L st h r, R0 m pc L st h = some r → ∃ N, ∀ n, N ≤ n → R n m pc L st h = some r)
    (m : Nat) (I : Instr) (x : List Nat) (c : Int) (L : zL) (st : List zV) (h : zH) (k0 : zL → List zV → zH → Option zR) (k : Nat → zL → List zV → zH → Option zR) (r : zR) (hk : ∀ L' st' h', k0 L' st' h' = some r → ∃ N, ∀ n, N ≤ n → k n L' st' h' = some r)
    (q : zI xs R0 m I x c L st h k0 = some r) : ∃ N, ∀ n, N ≤ n → zI xs (R n) m I x c L st h (k n) = some r := by
  have hJ : ∀ (L : zL) (st : List zV) (h : zH), zJ (R0 m) x L st h = some r → ∃ N, ∀ n, N ≤ n → zJ (R n m) x L st h = some r := fun L st h => zcont_J (fun _ _ => none) R R0 hR m x L st h r
  have hX := fun (L : zL) (st : List zV) (h : zH) => zcont_X R R0 hR x L st h k0 k r hk
  obtain ⟨J, hJ0⟩ : ∃ J, J = I := ⟨I, rfl⟩
  cases I
  case ifCond cnd off =>
    cases cnd <;> rcases st with _ | ⟨a | a | a, st⟩ <;> first
      | (cases q; done)
      | exact zcont_if (hJ _ _ _) (hk _ _ _) q
  case if_icmp cnd off =>
    cases cnd <;> rcases st with _ | ⟨a | a | a, _ | ⟨b | b | b, st⟩⟩ <;> first
      | (cases q; done)
      | exact zcont_if (hJ _ _ _) (hk _ _ _) q
  case ifnull off =>
    rcases st with _ | ⟨a | a | (_ | a), st⟩ <;> first | (cases q; done) | exact hJ _ _ _ q | exact hk _ _ _ q
  case ifnonnull off =>
    rcases st with _ | ⟨a | a | (_ | a), st⟩ <;> first | (cases q; done) | exact hJ _ _ _ q | exact hk _ _ _ q
  case tableswitch d lo hi offs =>
    rcases x with _ | ⟨n, _ | ⟨d2, x⟩⟩ <;> rcases st with _ | ⟨a | a | a, st⟩ <;> first | (cases q; done) | skip
    simp only [zI] at q ⊢
    split at q
    next hc => simp only [hc, if_true]; exact hR _ _ _ _ _ _ q
    next hc =>
      simp only [hc, if_false]
      cases ht : (x.drop n)[(zw a - lo).toNat]? with
      | none => rw [ht] at q; cases q
      | some t => rw [ht] at q; exact hR _ _ _ _ _ _ q
  case ireturn => exact ⟨0, fun _ _ => q⟩
  case lreturn => exact ⟨0, fun _ _ => q⟩
  case areturn => exact ⟨0, fun _ _ => q⟩
  case return_ => exact ⟨0, fun _ _ => q⟩
  case invokevirtual i => exact hX _ _ _ q
  case invokestatic i => exact hX _ _ _ q
  case invokespecial i =>
    rcases x with _ | ⟨t, x⟩
    · rcases st with _ | ⟨a | a | (_ | a), _ | ⟨b, st⟩⟩ <;> first | (cases q; done) | exact hk _ _ _ q
    · exact hX _ _ _ q
  case nop => exact hJ _ _ _ q
  case goto off => exact hJ _ _ _ q
  all_goals
    have z := zS_lin xs J x c L st h
    rw [hJ0] at z
    exact zcont_lin z hk q
theorem zcont_B (xs : List Int) (R : Nat → Nat → Nat → zL → List zV → zH → Option zR) (R0 : Nat → Nat → zL → List zV → zH → Option zR) (hR : ∀ m pc L st h r, R0 m pc L st h = some r → ∃ N, ∀ n, N ≤ n → R n m pc L st h = some r)
    (m : Nat) (r : zR) : ∀ (b : List zE) (L : zL) (st : List zV) (h : zH), zB xs R0 m b L st h = some r → ∃ N, ∀ n, N ≤ n → zB xs (R n) m b L st h = some r
  | [], _, _, _, q => by cases q
  | (I, x, c) :: t, L, st, h, q => zcont_I xs R R0 hR m I x c L st h (zB xs R0 m t) (fun n => zB xs (R n) m t) r (fun L' st' h' q' => zcont_B xs R R0 hR m r t L' st' h' q') q
theorem zrun_succ (B : Nat → Nat → Option (List zE)) (xs : List Int) : ∀ (n m pc : Nat) (L : zL) (st : List zV) (h : zH) (r : zR), zrun B xs n m pc L st h = some r → zrun B xs (n + 1) m pc L st h = some r := by
  intro n
  induction n with
  | zero => intro m pc L st h r q; cases q
  | succ n ih =>
    intro m pc L st h r q
    rw [zrun] at q ⊢
    cases hb : B m pc with
    | none => rw [hb] at q; cases q
    | some b =>
      rw [hb] at q
      obtain ⟨N, e⟩ := zcont_B xs (fun _ => zrun B xs (n + 1)) (zrun B xs n) (fun m pc L st h r q => ⟨0, fun _ _ => ih m pc L st h r q⟩) m r b L st h q
      exact e N (Nat.le_refl _)
theorem zrun_le (B : Nat → Nat → Option (List zE)) (xs : List Int) {n n' m pc : Nat} {L : zL} {st : List zV} {h : zH} {r : zR} (hn : n ≤ n') (q : zrun B xs n m pc L st h = some r) : zrun B xs n' m pc L st h = some r := by
  induction hn with
  | refl => exact q
  | step _ ih => exact zrun_succ B xs _ _ _ _ _ _ _ ih
theorem zx_iff (B : Nat → Nat → Option (List zE)) (xs : List Int) (m pc : Nat) (L : zL) (st : List zV) (h : zH) (r : zR) : zx B xs m pc L st h = some r ↔ ∃ n, zrun B xs n m pc L st h = some r := by
  unfold zx
  constructor
  · intro q
    split at q
    next hq =>
      obtain ⟨n, e⟩ := Classical.choose_spec hq
      cases q
      exact ⟨n, e⟩
    next => cases q
  · rintro ⟨n, e⟩
    have hq : ∃ r n, zrun B xs n m pc L st h = some r := ⟨r, n, e⟩
    rw [dif_pos hq]
    obtain ⟨n', e'⟩ := Classical.choose_spec hq
    have h1 := zrun_le B xs (Nat.le_max_left n n') e
    have h2 := zrun_le B xs (Nat.le_max_right n n') e'
    rw [h1] at h2
    exact h2.symm
theorem zx_unfold (B : Nat → Nat → Option (List zE)) (xs : List Int) (m pc : Nat) (b : List zE) (hb : B m pc = some b) (L : zL) (st : List zV) (h : zH) : zx B xs m pc L st h = zB xs (zx B xs) m b L st h := by
  have k1 : ∀ r, zx B xs m pc L st h = some r → zB xs (zx B xs) m b L st h = some r := by
    intro r q
    obtain ⟨n, e⟩ := (zx_iff B xs m pc L st h r).mp q
    cases n with
    | zero => cases e
    | succ n =>
      rw [zrun, hb] at e
      obtain ⟨N, e2⟩ := zcont_B xs (fun _ => zx B xs) (zrun B xs n) (fun m pc L st h r q => ⟨0, fun _ _ => (zx_iff B xs m pc L st h r).mpr ⟨n, q⟩⟩) m r b L st h e
      exact e2 N (Nat.le_refl _)
  have k2 : ∀ r, zB xs (zx B xs) m b L st h = some r → zx B xs m pc L st h = some r := by
    intro r q
    obtain ⟨N, e⟩ := zcont_B xs (zrun B xs) (zx B xs) (fun m pc L st h r q => by
      obtain ⟨n, e⟩ := (zx_iff B xs m pc L st h r).mp q
      exact ⟨n, fun n' hn' => zrun_le B xs hn' e⟩) m r b L st h q
    exact (zx_iff B xs m pc L st h r).mpr ⟨N + 1, by rw [zrun, hb]; exact e N (Nat.le_refl _)⟩
  cases h1 : zx B xs m pc L st h with
  | some r => exact (k1 r h1).symm
  | none =>
    cases h2 : zB xs (zx B xs) m b L st h with
    | none => rfl
    | some r => rw [k2 r h2] at h1; cases h1

/-- what is read leaves the heap no smaller -/
theorem zgrow_J (rec : Nat → zL → List zV → zH → Option zR) {r : zR} (hr : ∀ pc L st h, rec pc L st h = some r → zge h r.2) (x : List Nat) (L : zL) (st : List zV) (h : zH) (q : zJ rec x L st h = some r) : zge h r.2 := by
  rcases x with _ | ⟨t, x⟩
  · cases q
  · exact hr _ _ _ _ q
theorem zgrow_if {c : Prop} [Decidable c] {a b : Option zR} {r : zR} {P : Prop} (ha : a = some r → P) (hb : b = some r → P) (q : (if c then a else b) = some r) : P := by
  by_cases hc : c
  · rw [if_pos hc] at q; exact ha q
  · rw [if_neg hc] at q; exact hb q
theorem zgrow_Y {o : Option zR} {h : zH} (ho : ∀ r1, o = some r1 → zge h r1.2) (t : Nat) (L : zL) (st : List zV) (k : zL → List zV → zH → Option zR) (r : zR) (hk : ∀ L' st' h', k L' st' h' = some r → zge h' r.2)
    (q : zY t o L st k = some r) : zge h r.2 := by
  cases h1 : o with
  | none => rcases t with _ | _ | _ | _ | t <;> rw [h1] at q <;> cases q
  | some r1 =>
    have e1 := ho r1 h1
    rw [h1] at q
    obtain ⟨v, h2⟩ := r1
    rcases t with _ | _ | _ | _ | t <;> rcases v with _ | v | v | v <;> simp only [zY, zcv, zci, zcl, zcr] at q <;> first
      | (cases q; done)
      | exact zge_tr e1 (hk _ _ _ q)
theorem zgrow_ck {o : Option zR} {r : zR} {P : Prop} (ho : o = some r → P) (h : zH) (rr : Option Nat) (ci : Nat) (q : zck h rr ci o = some r) : P := by
  unfold zck at q
  rcases rr with _ | _ | p
  · cases q
  · cases q
  · dsimp only at q
    cases hc : h[p]? with
    | none => rw [hc] at q; cases q
    | some c =>
      rw [hc] at q
      exact zgrow_if ho (fun q => by cases q) q
theorem zgrow_X (rec : Nat → Nat → zL → List zV → zH → Option zR) (hr : ∀ m pc L st h r, rec m pc L st h = some r → zge h r.2) (x : List Nat) (L : zL) (st : List zV) (h : zH) (k : zL → List zV → zH → Option zR) (r : zR) (hk : ∀ L' st' h', k L' st' h' = some r → zge h' r.2)
    (q : zX rec x L st h k = some r) : zge h r.2 := by
  rcases x with _ | ⟨m, _ | ⟨n, _ | ⟨t, _ | ⟨mx, _ | ⟨t2, _ | ⟨t3, x⟩⟩⟩⟩⟩⟩
  · cases q
  · cases q
  · cases q
  · cases q
  · exact zgrow_if (zgrow_Y (fun r1 q1 => hr _ _ _ _ _ _ q1) t L _ k r hk) (fun q => by cases q) q
  · exact zgrow_if (zgrow_ck (zgrow_Y (fun r1 q1 => hr _ _ _ _ _ _ q1) t L _ k r hk) h _ _) (fun q => by cases q) q
  · cases q
theorem zgrow_lin {h : zH} {F : (zL → List zV → zH → Option zR) → Option zR} (hF : zlin h F) {k : zL → List zV → zH → Option zR} {r : zR} (hk : ∀ L' st' h', k L' st' h' = some r → zge h' r.2) (q : F k = some r) : zge h r.2 := by
  rcases hF with hF | ⟨L', st', h', hg, hF⟩
  · rw [hF] at q; cases q
  · rw [hF] at q
    exact zge_tr hg (hk _ _ _ q)
theorem zgrow_I (xs : List Int) (rec : Nat → Nat → zL → List zV → zH → Option zR) (hr : ∀ m pc L st h r, rec m pc L st h = some r → zge h r.2)
    (m : Nat) (I : Instr) (x : List Nat) (c : Int) (L : zL) (st : List zV) (h : zH) (k : zL → List zV → zH → Option zR) (r : zR) (hk : ∀ L' st' h', k L' st' h' = some r → zge h' r.2)
    (q : zI xs rec m I x c L st h k = some r) : zge h r.2 := by
  have hJ : ∀ (L : zL) (st : List zV) (h : zH), zJ (rec m) x L st h = some r → zge h r.2 := fun L st h => zgrow_J (rec m) (fun pc L st h q => hr m pc L st h r q) x L st h
  have hX := fun (L : zL) (st : List zV) (h : zH) => zgrow_X rec hr x L st h k r hk
  obtain ⟨J, hJ0⟩ : ∃ J, J = I := ⟨I, rfl⟩
  cases I
  case ifCond cnd off =>
    cases cnd <;> rcases st with _ | ⟨a | a | a, st⟩ <;> first
      | (cases q; done)
      | exact zgrow_if (hJ _ _ _) (hk _ _ _) q
  case if_icmp cnd off =>
    cases cnd <;> rcases st with _ | ⟨a | a | a, _ | ⟨b | b | b, st⟩⟩ <;> first
      | (cases q; done)
      | exact zgrow_if (hJ _ _ _) (hk _ _ _) q
  case ifnull off =>
    rcases st with _ | ⟨a | a | (_ | a), st⟩ <;> first | (cases q; done) | exact hJ _ _ _ q | exact hk _ _ _ q
  case ifnonnull off =>
    rcases st with _ | ⟨a | a | (_ | a), st⟩ <;> first | (cases q; done) | exact hJ _ _ _ q | exact hk _ _ _ q
  case tableswitch d lo hi offs =>
    rcases x with _ | ⟨n, _ | ⟨d2, x⟩⟩ <;> rcases st with _ | ⟨a | a | a, st⟩ <;> first | (cases q; done) | skip
    simp only [zI] at q
    split at q
    next hc => exact hr _ _ _ _ _ _ q
    next hc =>
      cases ht : (x.drop n)[(zw a - lo).toNat]? with
      | none => rw [ht] at q; cases q
      | some t => rw [ht] at q; exact hr _ _ _ _ _ _ q
  case ireturn =>
    rcases x with _ | ⟨_ | _ | t, _ | ⟨t2, x⟩⟩ <;> rcases st with _ | ⟨a | a | a, _ | ⟨b, st⟩⟩ <;> first
      | (cases q; done)
      | (cases q; exact zge_rf _)
      | (exact zgrow_if (fun q => by cases q; exact zge_rf _) (fun q => by cases q) q)
  case lreturn => rcases st with _ | ⟨a | a | a, _ | ⟨b, st⟩⟩ <;> first | (cases q; done) | (cases q; exact zge_rf _)
  case areturn => rcases st with _ | ⟨a | a | a, _ | ⟨b, st⟩⟩ <;> first | (cases q; done) | (cases q; exact zge_rf _)
  case return_ => rcases st with _ | ⟨a, st⟩ <;> first | (cases q; done) | (cases q; exact zge_rf _)
  case invokevirtual i => exact hX _ _ _ q
  case invokestatic i => exact hX _ _ _ q
  case invokespecial i =>
    rcases x with _ | ⟨t, x⟩
    · rcases st with _ | ⟨a | a | (_ | a), _ | ⟨b, st⟩⟩ <;> first | (cases q; done) | exact hk _ _ _ q
    · exact hX _ _ _ q
  case nop => exact hJ _ _ _ q
  case goto off => exact hJ _ _ _ q
  all_goals
    have z := zS_lin xs J x c L st h
    rw [hJ0] at z
    exact zgrow_lin z hk q
theorem zgrow_B (xs : List Int) (rec : Nat → Nat → zL → List zV → zH → Option zR) (hr : ∀ m pc L st h r, rec m pc L st h = some r → zge h r.2)
    (m : Nat) (r : zR) : ∀ (b : List zE) (L : zL) (st : List zV) (h : zH), zB xs rec m b L st h = some r → zge h r.2
  | [], _, _, _, q => by cases q
  | (I, x, c) :: t, L, st, h, q => zgrow_I xs rec hr m I x c L st h (zB xs rec m t) r (fun L' st' h' q' => zgrow_B xs rec hr m r t L' st' h' q') q
theorem zgrow_run (B : Nat → Nat → Option (List zE)) (xs : List Int) : ∀ (n m pc : Nat) (L : zL) (st : List zV) (h : zH) (r : zR), zrun B xs n m pc L st h = some r → zge h r.2 := by
  intro n
  induction n with
  | zero => intro m pc L st h r q; cases q
  | succ n ih =>
    intro m pc L st h r q
    rw [zrun] at q
    cases hb : B m pc with
    | none => rw [hb] at q; cases q
    | some b =>
      rw [hb] at q
      exact zgrow_B xs _ ih m r b L st h q
end
section
/-! ===== whole numbers and machine numbers ===== -/
theorem zw_toInt (a : Int) : (Int32.ofInt a).toInt = zw a := by
  rw [Int32.toInt_ofInt, Int.bmod_def]
  unfold zw
  simp only [Int32.size]
  split <;> omega
theorem zwl_toInt (a : Int) : (Int64.ofInt a).toInt = zwl a := by
  rw [Int64.toInt_ofInt, Int.bmod_def]
  unfold zwl
  simp only [Int64.size]
  split <;> omega
theorem zw_of (a : Int) : Int32.ofInt (zw a) = Int32.ofInt a := by rw [← zw_toInt, Int32.ofInt_toInt]
theorem zwl_of (a : Int) : Int64.ofInt (zwl a) = Int64.ofInt a := by rw [← zwl_toInt, Int64.ofInt_toInt]
theorem zw_lo (a : Int) : -2147483648 ≤ zw a := by unfold zw; omega
theorem zw_hi (a : Int) : zw a ≤ 2147483647 := by unfold zw; omega
theorem zw_id {a : Int} (h1 : -2147483648 ≤ a) (h2 : a ≤ 2147483647) : zw a = a := by unfold zw; omega
theorem zwl_lo (a : Int) : -9223372036854775808 ≤ zwl a := by unfold zwl; omega
theorem zwl_hi (a : Int) : zwl a ≤ 9223372036854775807 := by unfold zwl; omega
theorem zwl_id {a : Int} (h1 : -9223372036854775808 ≤ a) (h2 : a ≤ 9223372036854775807) : zwl a = a := by unfold zwl; omega
theorem zw_min : Int32.minValue.toInt = -2147483648 := by decide
theorem zw_max : Int32.maxValue.toInt = 2147483647 := by decide
theorem zwl_min : Int64.minValue.toInt = -9223372036854775808 := by decide
theorem zwl_max : Int64.maxValue.toInt = 9223372036854775807 := by decide
theorem zw_div (a b : Int) : Int32.ofInt ((zw a).tdiv (zw b)) = Int32.ofInt a / Int32.ofInt b := by
  rw [Int32.ofInt_tdiv (by rw [zw_min]; exact zw_lo a) (by rw [zw_max]; exact zw_hi a) (by rw [zw_min]; exact zw_lo b) (by rw [zw_max]; exact zw_hi b), zw_of, zw_of]
theorem zwl_div (a b : Int) : Int64.ofInt ((zwl a).tdiv (zwl b)) = Int64.ofInt a / Int64.ofInt b := by
  rw [Int64.ofInt_tdiv (by rw [zwl_min]; exact zwl_lo a) (by rw [zwl_max]; exact zwl_hi a) (by rw [zwl_min]; exact zwl_lo b) (by rw [zwl_max]; exact zwl_hi b), zwl_of, zwl_of]
theorem zw_mod (a b : Int) : Int32.ofInt ((zw a).tmod (zw b)) = Int32.ofInt a - Int32.ofInt a / Int32.ofInt b * Int32.ofInt b := by
  have h : (zw a).tmod (zw b) = zw a - (zw a).tdiv (zw b) * zw b := by rw [Int.tmod_def, Int.mul_comm]
  rw [h, Int32.ofInt_sub, Int32.ofInt_mul, zw_div, zw_of, zw_of]
theorem zwl_mod (a b : Int) : Int64.ofInt ((zwl a).tmod (zwl b)) = Int64.ofInt a - Int64.ofInt a / Int64.ofInt b * Int64.ofInt b := by
  have h : (zwl a).tmod (zwl b) = zwl a - (zwl a).tdiv (zwl b) * zwl b := by rw [Int.tmod_def, Int.mul_comm]
  rw [h, Int64.ofInt_sub, Int64.ofInt_mul, zwl_div, zwl_of, zwl_of]
theorem zw_eq (a b : Int) : Int32.ofInt a = Int32.ofInt b ↔ zw a = zw b := by rw [← Int32.toInt_inj, zw_toInt, zw_toInt]
theorem zw_lt (a b : Int) : Int32.ofInt a < Int32.ofInt b ↔ zw a < zw b := by rw [Int32.lt_iff_toInt_lt, zw_toInt, zw_toInt]
theorem zw_le (a b : Int) : Int32.ofInt a ≤ Int32.ofInt b ↔ zw a ≤ zw b := by rw [Int32.le_iff_toInt_le, zw_toInt, zw_toInt]
theorem zwl_eq (a b : Int) : Int64.ofInt a = Int64.ofInt b ↔ zwl a = zwl b := by rw [← Int64.toInt_inj, zwl_toInt, zwl_toInt]
theorem zwl_lt (a b : Int) : Int64.ofInt a < Int64.ofInt b ↔ zwl a < zwl b := by rw [Int64.lt_iff_toInt_lt, zwl_toInt, zwl_toInt]
theorem zw_eq0 (a : Int) : Int32.ofInt a = 0 ↔ zw a = 0 := by
  have h := zw_eq a 0
  rw [show zw 0 = 0 by rfl] at h
  exact h
theorem zwl_eq0 (a : Int) : Int64.ofInt a = 0 ↔ zwl a = 0 := by
  have h := zwl_eq a 0
  rw [show zwl 0 = 0 by rfl] at h
  exact h
theorem zw_lt0 (a : Int) : Int32.ofInt a < 0 ↔ zw a < 0 := by
  have h := zw_lt a 0
  rw [show zw 0 = 0 by rfl] at h
  exact h
theorem zw_gt0 (a : Int) : 0 < Int32.ofInt a ↔ 0 < zw a := by
  have h := zw_lt 0 a
  rw [show zw 0 = 0 by rfl] at h
  exact h
theorem zw_le0 (a : Int) : Int32.ofInt a ≤ 0 ↔ zw a ≤ 0 := by
  have h := zw_le a 0
  rw [show zw 0 = 0 by rfl] at h
  exact h
theorem zw_ge0 (a : Int) : 0 ≤ Int32.ofInt a ↔ 0 ≤ zw a := by
  have h := zw_le 0 a
  rw [show zw 0 = 0 by rfl] at h
  exact h
theorem zw_i2l (a : Int) : (Int32.ofInt a).toInt64 = Int64.ofInt (zw a) := by
  rw [← zw_of, Int32.toInt64_ofInt (by rw [zw_min]; exact zw_lo a) (by rw [zw_max]; exact zw_hi a)]
theorem zw_l2i (a : Int) : (Int64.ofInt a).toInt32 = Int32.ofInt a := Int64.toInt32_ofInt
theorem zwl_cmp (a b : Int) : lg_cmp (Int64.ofInt a) (Int64.ofInt b) = Int32.ofInt (if zwl a < zwl b then -1 else if zwl a = zwl b then 0 else 1) := by
  unfold lg_cmp
  by_cases h1 : zwl b < zwl a
  · rw [if_pos (show Int64.ofInt b < Int64.ofInt a from (zwl_lt b a).mpr h1), if_neg (by omega), if_neg (by omega)]
    rfl
  · rw [if_neg (show ¬ Int64.ofInt b < Int64.ofInt a from fun h => h1 ((zwl_lt b a).mp h))]
    by_cases h2 : zwl a = zwl b
    · rw [if_pos ((zwl_eq a b).mpr h2), if_neg (by omega), if_pos h2]
      rfl
    · rw [if_neg (fun h => h2 ((zwl_eq a b).mp h)), if_pos (by omega)]
      rfl
theorem zw_clamp (a : Int) : (Int32.ofInt a).toNatClampNeg = (zw a).toNat := by
  show (Int32.ofInt a).toInt.toNat = _
  rw [zw_toInt]
theorem zw_in {a : Int} {n : Nat} (h0 : 0 ≤ zw a) (h : (zw a).toNat < n) : vp_in (Int32.ofInt a) n := by
  unfold vp_in
  rw [zw_lt0, zw_clamp]
  omega
theorem zw_bip {n : Int} (h1 : -128 ≤ n) (h2 : n ≤ 127) : (Int8.ofInt n).toInt32 = Int32.ofInt n := Int8.toInt32_ofInt (by rw [show Int8.minValue.toInt = -128 by decide]; exact h1) (by rw [show Int8.maxValue.toInt = 127 by decide]; exact h2)
theorem zw_sip {n : Int} (h1 : -32768 ≤ n) (h2 : n ≤ 32767) : (Int16.ofInt n).toInt32 = Int32.ofInt n := Int16.toInt32_ofInt (by rw [show Int16.minValue.toInt = -32768 by decide]; exact h1) (by rw [show Int16.maxValue.toInt = 32767 by decide]; exact h2)
end
section
/-! ===== how a state of the reading lies in the machine ===== -/
/-- places to addresses -/
def zcR (ads : List Nat) : zV → Value → Prop
  | .inl x, V => V = .int (Int32.ofInt x)
  | .inr (.inl x), V => V = .long (Int64.ofInt x)
  | .inr (.inr none), V => V = .null
  | .inr (.inr (some p)), V => ∃ a, ads[p]? = some a ∧ V = .ref a
def zpre (ads ads' : List Nat) : Prop := ∀ (i a : Nat), ads[i]? = some a → ads'[i]? = some a
theorem zpre_rf (ads : List Nat) : zpre ads ads := fun _ _ h => h
theorem zpre_tr {a b c : List Nat} (h1 : zpre a b) (h2 : zpre b c) : zpre a c := fun i x h => h2 i x (h1 i x h)
theorem zpre_app (a b : List Nat) : zpre a (a ++ b) := fun i x h => by
  rw [List.getElem?_append_left (List.getElem?_eq_some_iff.mp h).1]; exact h
theorem zcR_pre {ads ads' : List Nat} (hp : zpre ads ads') : ∀ {v : zV} {V : Value}, zcR ads v V → zcR ads' v V
  | .inl _, _, h => h
  | .inr (.inl _), _, h => h
  | .inr (.inr none), _, h => h
  | .inr (.inr (some _)), _, ⟨a, h1, h2⟩ => ⟨a, hp _ _ h1, h2⟩
theorem zcR_cat {ads : List Nat} : ∀ {v : zV} {V : Value}, zcR ads v V → V.category = zcat v
  | .inl _, _, h => by cases h; rfl
  | .inr (.inl _), _, h => by cases h; rfl
  | .inr (.inr none), _, h => by cases h; rfl
  | .inr (.inr (some _)), _, ⟨_, _, h⟩ => by cases h; rfl
def zSt (ads : List Nat) : List zV → List Value → Prop
  | [], [] => True
  | v :: t, V :: T => zcR ads v V ∧ zSt ads t T
  | _, _ => False
theorem zSt_pre {ads ads' : List Nat} (hp : zpre ads ads') : ∀ {t : List zV} {T : List Value}, zSt ads t T → zSt ads' t T
  | [], [], _ => trivial
  | _ :: _, _ :: _, h => ⟨zcR_pre hp h.1, zSt_pre hp h.2⟩
  | [], _ :: _, h => h.elim
  | _ :: _, [], h => h.elim
theorem zSt_len {ads : List Nat} : ∀ {t : List zV} {T : List Value}, zSt ads t T → T.length = t.length
  | [], [], _ => rfl
  | _ :: _, _ :: _, h => by simp [zSt_len h.2]
  | [], _ :: _, h => h.elim
  | _ :: _, [], h => h.elim
theorem zSt_get {ads : List Nat} : ∀ {t : List zV} {T : List Value} {k : Nat} {v : zV}, zSt ads t T → t[k]? = some v → ∃ V, T[k]? = some V ∧ zcR ads v V
  | [], [], k, v, _, h => by simp at h
  | w :: t, W :: T, 0, v, h, q => by
    simp at q
    subst q
    exact ⟨W, by simp, h.1⟩
  | w :: t, W :: T, k + 1, v, h, q => by
    simp at q
    obtain ⟨V, h1, h2⟩ := zSt_get h.2 q
    exact ⟨V, by simpa using h1, h2⟩
  | [], _ :: _, _, _, h, _ => h.elim
  | _ :: _, [], _, _, h, _ => h.elim
theorem zSt_set {ads : List Nat} : ∀ {t : List zV} {T : List Value} (k : Nat) {v : zV} {V : Value}, zSt ads t T → zcR ads v V → zSt ads (t.set k v) (T.set k V)
  | [], [], _, _, _, _, _ => trivial
  | _ :: _, _ :: _, 0, _, _, h, q => ⟨q, h.2⟩
  | _ :: _, _ :: _, k + 1, _, _, h, q => ⟨h.1, zSt_set k h.2 q⟩
  | [], _ :: _, _, _, _, h, _ => h.elim
  | _ :: _, [], _, _, _, h, _ => h.elim
theorem zSt_take {ads : List Nat} : ∀ (n : Nat) {t : List zV} {T : List Value}, zSt ads t T → zSt ads (t.take n) (T.take n) ∧ zSt ads (t.drop n) (T.drop n)
  | 0, t, T, h => ⟨trivial, h⟩
  | n + 1, [], [], _ => ⟨trivial, trivial⟩
  | n + 1, _ :: _, _ :: _, h => ⟨⟨h.1, (zSt_take n h.2).1⟩, (zSt_take n h.2).2⟩
  | n + 1, [], _ :: _, h => h.elim
  | n + 1, _ :: _, [], h => h.elim
theorem zSt_app {ads : List Nat} : ∀ {t : List zV} {T : List Value} {t2 : List zV} {T2 : List Value}, zSt ads t T → zSt ads t2 T2 → zSt ads (t ++ t2) (T ++ T2)
  | [], [], _, _, _, h2 => h2
  | _ :: _, _ :: _, _, _, h, h2 => ⟨h.1, zSt_app h.2 h2⟩
  | [], _ :: _, _, _, h, _ => h.elim
  | _ :: _, [], _, _, h, _ => h.elim
theorem zSt_rev {ads : List Nat} : ∀ {t : List zV} {T : List Value}, zSt ads t T → zSt ads t.reverse T.reverse
  | [], [], _ => trivial
  | _ :: _, _ :: _, h => by
    rw [List.reverse_cons, List.reverse_cons]
    exact zSt_app (zSt_rev h.2) ⟨h.1, trivial⟩
  | [], _ :: _, h => h.elim
  | _ :: _, [], h => h.elim
theorem zSt_cat {ads : List Nat} : ∀ {t : List zV} {T : List Value}, zSt ads t T → (T.map fun v => v.category).sum ≤ 2 * t.length
  | [], [], _ => by simp
  | v :: t, V :: T, h => by
    have h1 := zSt_cat h.2
    have h2 := zcR_cat h.1
    have h3 : zcat v ≤ 2 := by rcases v with v | v | v <;> simp [zcat]
    simp only [List.map_cons, List.sum_cons, List.length_cons]
    omega
  | [], _ :: _, h => h.elim
  | _ :: _, [], h => h.elim
/-- the locals -/
def zLo (ads : List Nat) (nL : Nat) (L : zL) (ls : Array Slot) : Prop := ls.size = nL ∧ lv_wf ls ∧ ∀ (i : Nat) (v : zV), L[i]? = some (some v) → ∃ V, ls[i]? = some (.val V) ∧ zcR ads v V
theorem zLo_pre {ads ads' : List Nat} (hp : zpre ads ads') {nL : Nat} {L : zL} {ls : Array Slot} (h : zLo ads nL L ls) : zLo ads' nL L ls := ⟨h.1, h.2.1, fun i v q => by
  obtain ⟨V, h1, h2⟩ := h.2.2 i v q
  exact ⟨V, h1, zcR_pre hp h2⟩⟩
theorem zLo_ld {ads : List Nat} {nL : Nat} {L : zL} {ls : Array Slot} (h : zLo ads nL L ls) {i : Nat} {v : zV} (q : zld L i = some v) : ∃ V, ls[i]? = some (.val V) ∧ zcR ads v V := by
  unfold zld at q
  split at q
  next w hw => cases q; exact h.2.2 i v hw
  next => cases q
theorem zkeep_get : ∀ (m : List Nat) (L : zL) (i : Nat) (v : zV), (zkeep m L)[i]? = some (some v) → L[i]? = some (some v)
  | [], L, i, v, h => by simp [zkeep] at h
  | a :: m, [], i, v, h => by simp [zkeep] at h
  | 0 :: m, w :: t, 0, v, h => by simp [zkeep] at h
  | 0 :: m, w :: t, i + 1, v, h => by simp [zkeep] at h ⊢; exact zkeep_get m t i v h
  | (_ + 1) :: m, w :: t, 0, v, h => by simpa [zkeep] using h
  | (_ + 1) :: m, w :: t, i + 1, v, h => by simp [zkeep] at h ⊢; exact zkeep_get m t i v h
theorem zLo_keep {ads : List Nat} {nL : Nat} {L : zL} {ls : Array Slot} (h : zLo ads nL L ls) (m : List Nat) : zLo ads nL (zkeep m L) ls := ⟨h.1, h.2.1, fun i v q => h.2.2 i v (zkeep_get m L i v q)⟩
/-- what stands in L after a store, stood there before or is the stored one -/
theorem zset1_get : ∀ (L : zL) (i : Nat) (w : Option zV) (j : Nat) (v : zV), (zset1 L i w)[j]? = some (some v) → (j = i ∧ w = some v) ∨ (j ≠ i ∧ L[j]? = some (some v) ∧ ¬ (j + 1 = i ∧ zcat v = 2))
  | [], 0, w, 0, v, h => by simp [zset1] at h; exact Or.inl ⟨rfl, h⟩
  | [], 0, w, j + 1, v, h => by simp [zset1] at h
  | [], i + 1, w, 0, v, h => by simp [zset1] at h
  | [], i + 1, w, j + 1, v, h => by
    simp [zset1] at h
    rcases zset1_get [] i w j v h with ⟨h1, h2⟩ | ⟨h1, h2, h3⟩
    · exact Or.inl ⟨by omega, h2⟩
    · simp at h2
  | a :: t, 0, w, 0, v, h => by simp [zset1] at h; exact Or.inl ⟨rfl, h⟩
  | a :: t, 0, w, j + 1, v, h => by simp [zset1] at h; exact Or.inr ⟨by omega, by simpa using h, by omega⟩
  | a :: t, i + 1, w, 0, v, h => by
    have key : ∀ b : Option zV, b = some v → b = a → (0 = i + 1 ∧ w = some v) ∨ (0 ≠ i + 1 ∧ (a :: t)[0]? = some (some v) ∧ ¬ (0 + 1 = i + 1 ∧ zcat v = 2)) ∨ (i = 0 ∧ zcat v = 2) := by
      intro b h1 h2
      subst h2
      by_cases hi : i = 0 ∧ zcat v = 2
      · exact Or.inr (Or.inr hi)
      · refine Or.inr (Or.inl ⟨by omega, by simp [h1], ?_⟩)
        intro q; exact hi ⟨by omega, q.2⟩
    rcases a with _ | a | a | a
    · simp [zset1] at h
    · simp [zset1] at h
      rcases key _ (by simp [h]) rfl with q | q | ⟨q1, q2⟩
      · exact Or.inl q
      · exact Or.inr q
      · subst h; simp [zcat] at q2
    · rcases i with _ | i
      · simp [zset1] at h
      · simp [zset1] at h
        rcases key _ (by simp [h]) rfl with q | q | ⟨q1, q2⟩
        · exact Or.inl q
        · exact Or.inr q
        · omega
    · simp [zset1] at h
      rcases key _ (by simp [h]) rfl with q | q | ⟨q1, q2⟩
      · exact Or.inl q
      · exact Or.inr q
      · subst h; simp [zcat] at q2
  | a :: t, i + 1, w, j + 1, v, h => by
    have h' : (zset1 t i w)[j]? = some (some v) := by
      rcases a with _ | a | a | a
      · simpa [zset1] using h
      · simpa [zset1] using h
      · rcases i with _ | i <;> simpa [zset1] using h
      · simpa [zset1] using h
    rcases zset1_get t i w j v h' with ⟨h1, h2⟩ | ⟨h1, h2, h3⟩
    · exact Or.inl ⟨by omega, h2⟩
    · exact Or.inr ⟨by omega, by simpa using h2, by omega⟩
theorem zset2_get : ∀ (L : zL) (i : Nat) (w : Option zV) (j : Nat) (v : zV), (zset2 L i w)[j]? = some (some v) → (j = i ∧ w = some v) ∨ (j ≠ i ∧ j ≠ i + 1 ∧ L[j]? = some (some v) ∧ ¬ (j + 1 = i ∧ zcat v = 2))
  | [], 0, w, 0, v, h => by simp [zset2] at h; exact Or.inl ⟨rfl, h⟩
  | [], 0, w, 1, v, h => by simp [zset2] at h
  | [], 0, w, j + 2, v, h => by simp [zset2] at h
  | [], i + 1, w, 0, v, h => by simp [zset2] at h
  | [], i + 1, w, j + 1, v, h => by
    simp [zset2] at h
    rcases zset2_get [] i w j v h with ⟨h1, h2⟩ | ⟨h1, h2, h3, h4⟩
    · exact Or.inl ⟨by omega, h2⟩
    · simp at h3
  | [a], 0, w, 0, v, h => by simp [zset2] at h; exact Or.inl ⟨rfl, h⟩
  | [a], 0, w, 1, v, h => by simp [zset2] at h
  | [a], 0, w, j + 2, v, h => by simp [zset2] at h
  | a :: b :: t, 0, w, 0, v, h => by simp [zset2] at h; exact Or.inl ⟨rfl, h⟩
  | a :: b :: t, 0, w, 1, v, h => by simp [zset2] at h
  | a :: b :: t, 0, w, j + 2, v, h => by simp [zset2] at h; exact Or.inr ⟨by omega, by omega, by simpa using h, by omega⟩
  | a :: t, i + 1, w, 0, v, h => by
    have key : ∀ b : Option zV, b = some v → b = a → (0 = i + 1 ∧ w = some v) ∨ (0 ≠ i + 1 ∧ 0 ≠ i + 1 + 1 ∧ (a :: t)[0]? = some (some v) ∧ ¬ (0 + 1 = i + 1 ∧ zcat v = 2)) ∨ (i = 0 ∧ zcat v = 2) := by
      intro b h1 h2
      subst h2
      by_cases hi : i = 0 ∧ zcat v = 2
      · exact Or.inr (Or.inr hi)
      · refine Or.inr (Or.inl ⟨by omega, by omega, by simp [h1], ?_⟩)
        intro q; exact hi ⟨by omega, q.2⟩
    have fin : zcat v ≠ 2 ∨ i ≠ 0 → a = some v → (0 = i + 1 ∧ w = some v) ∨ (0 ≠ i + 1 ∧ 0 ≠ i + 1 + 1 ∧ (a :: t)[0]? = some (some v) ∧ ¬ (0 + 1 = i + 1 ∧ zcat v = 2)) := by
      intro hn ha
      rcases key _ ha rfl with q | q | ⟨q1, q2⟩
      · exact Or.inl q
      · exact Or.inr q
      · omega
    rcases a with _ | a | a | a
    · rcases t with _ | ⟨b, t⟩ <;> simp [zset2] at h
    · have ha : some (Sum.inl a) = some v := by rcases t with _ | ⟨b, t⟩ <;> simpa [zset2] using h
      exact fin (Or.inl (by cases ha; simp [zcat])) ha
    · rcases i with _ | i
      · rcases t with _ | ⟨b, t⟩ <;> simp [zset2] at h
      · have ha : some (Sum.inr (Sum.inl a)) = some v := by rcases t with _ | ⟨b, t⟩ <;> simpa [zset2] using h
        exact fin (Or.inr (by omega)) ha
    · have ha : some (Sum.inr (Sum.inr a)) = some v := by rcases t with _ | ⟨b, t⟩ <;> simpa [zset2] using h
      exact fin (Or.inl (by cases ha; simp [zcat])) ha
  | a :: t, i + 1, w, j + 1, v, h => by
    have h' : (zset2 t i w)[j]? = some (some v) := by
      rcases a with _ | a | a | a
      · rcases t with _ | ⟨b, t⟩ <;> simpa [zset2] using h
      · rcases t with _ | ⟨b, t⟩ <;> simpa [zset2] using h
      · rcases i with _ | i <;> rcases t with _ | ⟨b, t⟩ <;> simpa [zset2] using h
      · rcases t with _ | ⟨b, t⟩ <;> simpa [zset2] using h
    rcases zset2_get t i w j v h' with ⟨h1, h2⟩ | ⟨h1, h2, h3, h4⟩
    · exact Or.inl ⟨by omega, h2⟩
    · exact Or.inr ⟨by omega, by omega, by simpa using h3, by omega⟩
theorem zLo_lv {ads : List Nat} {nL : Nat} {L : zL} {ls : Array Slot} (h : zLo ads nL L ls) : ∃ lv : List (Nat × Value), lv_has ls nL lv ∧ ∀ (i : Nat) (v : zV), L[i]? = some (some v) → ∃ V, (i, V) ∈ lv ∧ zcR ads v V := by
  have key : ∀ (L : zL) (k : Nat), (∀ (i : Nat) (v : zV), L[i]? = some (some v) → ∃ V, ls[k + i]? = some (.val V) ∧ zcR ads v V) → ∃ lv : List (Nat × Value), (∀ q ∈ lv, ls[q.1]? = some (.val q.2)) ∧ ∀ (i : Nat) (v : zV), L[i]? = some (some v) → ∃ V, (k + i, V) ∈ lv ∧ zcR ads v V := by
    intro L
    induction L with
    | nil => exact fun k _ => ⟨[], fun q hq => by simp at hq, fun i v hv => by simp at hv⟩
    | cons a t ih =>
      intro k hk
      obtain ⟨lv, h1, h2⟩ := ih (k + 1) (fun i v hv => by
        obtain ⟨V, e1, e2⟩ := hk (i + 1) v (by simpa using hv)
        exact ⟨V, by rw [show k + 1 + i = k + (i + 1) by omega]; exact e1, e2⟩)
      cases a with
      | none =>
        refine ⟨lv, h1, fun i v hv => ?_⟩
        cases i with
        | zero => simp at hv
        | succ i =>
          obtain ⟨V, e1, e2⟩ := h2 i v (by simpa using hv)
          exact ⟨V, by rw [show k + (i + 1) = k + 1 + i by omega]; exact e1, e2⟩
      | some w =>
        obtain ⟨W, e1, e2⟩ := hk 0 w (by simp)
        refine ⟨(k, W) :: lv, fun q hq => ?_, fun i v hv => ?_⟩
        · rcases List.mem_cons.mp hq with rfl | hq
          · simpa using e1
          · exact h1 q hq
        · cases i with
          | zero =>
            simp at hv
            subst hv
            exact ⟨W, by simp, e2⟩
          | succ i =>
            obtain ⟨V, e3, e4⟩ := h2 i v (by simpa using hv)
            exact ⟨V, by rw [show k + (i + 1) = k + 1 + i by omega]; exact List.mem_cons_of_mem _ e3, e4⟩
  obtain ⟨lv, h1, h2⟩ := key L 0 (fun i v hv => by
    obtain ⟨V, e1, e2⟩ := h.2.2 i v hv
    exact ⟨V, by rw [Nat.zero_add]; exact e1, e2⟩)
  exact ⟨lv, ⟨h.1, h.2.1, h1⟩, fun i v hv => by
    obtain ⟨V, e1, e2⟩ := h2 i v hv
    exact ⟨V, by rw [Nat.zero_add] at e1; exact e1, e2⟩⟩
theorem zLo_s1 {ads : List Nat} {nL i : Nat} {L : zL} {ls' : Array Slot} {lv : List (Nat × Value)} {v0 : zV} {V0 : Value} (hc : ∀ (i : Nat) (v : zV), L[i]? = some (some v) → ∃ V, (i, V) ∈ lv ∧ zcR ads v V) (h0 : zcR ads v0 V0)
    (h : lv_has ls' nL ((i, V0) :: lv.filter (fun q => !(q.1 == i) && !(q.1 + 1 == i && q.2.category == 2)))) : zLo ads nL (zset1 L i (some v0)) ls' := by
  refine ⟨h.1, h.2.1, fun j v hv => ?_⟩
  rcases zset1_get L i _ j v hv with ⟨rfl, e⟩ | ⟨h1, h2, h3⟩
  · cases e
    exact ⟨V0, h.2.2 (j, V0) List.mem_cons_self, h0⟩
  · obtain ⟨V, e1, e2⟩ := hc j v h2
    refine ⟨V, h.2.2 (j, V) (List.mem_cons_of_mem _ (List.mem_filter.mpr ⟨e1, ?_⟩)), e2⟩
    have hcat := zcR_cat e2
    simp only [Bool.and_eq_true, Bool.not_eq_true', beq_eq_false_iff_ne, ne_eq, Bool.and_eq_false_iff]
    refine ⟨h1, ?_⟩
    by_cases q : j + 1 = i
    · right; intro z; exact h3 ⟨q, by rw [← hcat]; exact z⟩
    · left; exact q
theorem zLo_s2 {ads : List Nat} {nL i : Nat} {L : zL} {ls' : Array Slot} {lv : List (Nat × Value)} {v0 : zV} {V0 : Value} (hc : ∀ (i : Nat) (v : zV), L[i]? = some (some v) → ∃ V, (i, V) ∈ lv ∧ zcR ads v V) (h0 : zcR ads v0 V0)
    (h : lv_has ls' nL ((i, V0) :: lv.filter (fun q => !(q.1 == i) && (!(q.1 == i + 1) && !(q.1 + 1 == i && q.2.category == 2))))) : zLo ads nL (zset2 L i (some v0)) ls' := by
  refine ⟨h.1, h.2.1, fun j v hv => ?_⟩
  rcases zset2_get L i _ j v hv with ⟨rfl, e⟩ | ⟨h1, h2, h3, h4⟩
  · cases e
    exact ⟨V0, h.2.2 (j, V0) List.mem_cons_self, h0⟩
  · obtain ⟨V, e1, e2⟩ := hc j v h3
    refine ⟨V, h.2.2 (j, V) (List.mem_cons_of_mem _ (List.mem_filter.mpr ⟨e1, ?_⟩)), e2⟩
    have hcat := zcR_cat e2
    simp only [Bool.and_eq_true, Bool.not_eq_true', beq_eq_false_iff_ne, ne_eq, Bool.and_eq_false_iff]
    refine ⟨h1, h2, ?_⟩
    by_cases q : j + 1 = i
    · right; intro z; exact h4 ⟨q, by rw [← hcat]; exact z⟩
    · left; exact q
/-- stacks by their top -/
theorem zSt_i {ads : List Nat} {x : Int} {t : List zV} {T : List Value} (h : zSt ads (.inl x :: t) T) : ∃ T', T = .int (Int32.ofInt x) :: T' ∧ zSt ads t T' := by
  rcases T with _ | ⟨V, T⟩
  · exact h.elim
  · obtain ⟨h1, h2⟩ := h
    cases h1
    exact ⟨T, rfl, h2⟩
theorem zSt_l {ads : List Nat} {x : Int} {t : List zV} {T : List Value} (h : zSt ads (.inr (.inl x) :: t) T) : ∃ T', T = .long (Int64.ofInt x) :: T' ∧ zSt ads t T' := by
  rcases T with _ | ⟨V, T⟩
  · exact h.elim
  · obtain ⟨h1, h2⟩ := h
    cases h1
    exact ⟨T, rfl, h2⟩
theorem zSt_r {ads : List Nat} {x : Option Nat} {t : List zV} {T : List Value} (h : zSt ads (.inr (.inr x) :: t) T) : ∃ V T', T = V :: T' ∧ zcR ads (.inr (.inr x)) V ∧ zSt ads t T' := by
  rcases T with _ | ⟨V, T⟩
  · exact h.elim
  · exact ⟨V, T, rfl, h.1, h.2⟩
/-- cells -/
def zCe (cl : List vw_C) (ads : List Nat) (tys : List (ClassId × FieldType)) (c : Nat × List zV) (e : va_E) : Prop :=
  (c.1 < 100 ∧ ∃ fs, e = .inr (c.1, fs) ∧ zSt ads c.2 fs) ∨
  (c.1 = 100 ∧ ∃ (cA : ClassId) (f : Nat → Int32), e = .inl (cA, c.2.length, .inl f) ∧ (cA, FieldType.int) ∈ tys ∧ ∀ (j : Nat) (v : zV), c.2[j]? = some v → ∃ x, v = .inl x ∧ f j = Int32.ofInt x) ∨
  (c.1 = 101 ∧ ∃ (cA : ClassId) (f : Nat → Int64), e = .inl (cA, c.2.length, .inr (.inl f)) ∧ (cA, FieldType.long) ∈ tys ∧ ∀ (j : Nat) (v : zV), c.2[j]? = some v → ∃ x, v = .inr (.inl x) ∧ f j = Int64.ofInt x) ∨
  (102 ≤ c.1 ∧ ∃ (cA : ClassId) (f : Nat → Option Nat) (r : vw_C), e = .inl (cA, c.2.length, .inr (.inr (.inr (.inr f)))) ∧ cl[c.1 - 102]? = some r ∧ (cA, FieldType.object r.1) ∈ tys ∧ ∀ (j : Nat) (v : zV), c.2[j]? = some v → ∃ x, v = .inr (.inr x) ∧ zcR ads (.inr (.inr x)) (va_rf (f j)))
theorem zCe_mono {cl : List vw_C} {ads ads' : List Nat} {tys tys' : List (ClassId × FieldType)} (hp : zpre ads ads') (ht : ∀ q ∈ tys, q ∈ tys') {c : Nat × List zV} {e : va_E} (h : zCe cl ads tys c e) : zCe cl ads' tys' c e := by
  rcases h with ⟨h1, fs, h2, h3⟩ | ⟨h1, cA, f, h2, h3, h4⟩ | ⟨h1, cA, f, h2, h3, h4⟩ | ⟨h1, cA, f, r, h2, h3, h4, h5⟩
  · exact Or.inl ⟨h1, fs, h2, zSt_pre hp h3⟩
  · exact Or.inr (Or.inl ⟨h1, cA, f, h2, ht _ h3, h4⟩)
  · exact Or.inr (Or.inr (Or.inl ⟨h1, cA, f, h2, ht _ h3, h4⟩))
  · refine Or.inr (Or.inr (Or.inr ⟨h1, cA, f, r, h2, h3, ht _ h4, fun j v hv => ?_⟩))
    obtain ⟨x, e1, e2⟩ := h5 j v hv
    exact ⟨x, e1, zcR_pre hp e2⟩
def zRep (cl : List vw_C) (ads : List Nat) (tys : List (ClassId × FieldType)) (ws : va_W) (h : zH) : Prop :=
  ws.length = h.length ∧ ads.length = h.length + 1 ∧ ∀ (k : Nat) (c : Nat × List zV), h[k]? = some c → ∃ a e, ads[k + 1]? = some a ∧ ws[k]? = some (a, e) ∧ zCe cl ads tys c e
theorem zRep_set {cl : List vw_C} {ads : List Nat} {tys : List (ClassId × FieldType)} {ws : va_W} {h : zH} (hR : zRep cl ads tys ws h) {p a : Nat} {c' : Nat × List zV} {e' : va_E} (ha : ads[p + 1]? = some a) (hc : zCe cl ads tys c' e') : zRep cl ads tys (ws.set p (a, e')) (h.set p c') := by
  obtain ⟨h1, h2, h3⟩ := hR
  refine ⟨by simp [h1], by simp [h2], fun k c hk => ?_⟩
  by_cases hkp : p = k
  · subst hkp
    have hl : p < h.length := by
      have := (List.getElem?_eq_some_iff.mp hk).1
      simpa using this
    rw [List.getElem?_set_self hl] at hk
    cases hk
    exact ⟨a, e', ha, by rw [List.getElem?_set_self (by omega)], hc⟩
  · rw [List.getElem?_set_ne hkp] at hk
    obtain ⟨a1, e1, q1, q2, q3⟩ := h3 k c hk
    exact ⟨a1, e1, q1, by rw [List.getElem?_set_ne hkp]; exact q2, q3⟩
theorem zRep_app {cl : List vw_C} {ads : List Nat} {tys tys' : List (ClassId × FieldType)} {ws : va_W} {h : zH} (hR : zRep cl ads tys ws h) (ht : ∀ q ∈ tys, q ∈ tys') {a : Nat} {c' : Nat × List zV} {e' : va_E} (hc : zCe cl ads tys' c' e') : zRep cl (ads ++ [a]) tys' (ws ++ [(a, e')]) (h ++ [c']) := by
  obtain ⟨h1, h2, h3⟩ := hR
  refine ⟨by simp [h1], by simp [h2], fun k c hk => ?_⟩
  by_cases hl : k < h.length
  · rw [List.getElem?_append_left hl] at hk
    obtain ⟨a1, e1, q1, q2, q3⟩ := h3 k c hk
    exact ⟨a1, e1, zpre_app _ _ _ _ q1, by rw [List.getElem?_append_left (by omega)]; exact q2, zCe_mono (zpre_app _ _) ht q3⟩
  · rw [List.getElem?_append_right (by omega)] at hk
    have hz : k - h.length < 1 := (List.getElem?_eq_some_iff.mp hk).1
    have hk0 : k = h.length := by omega
    subst hk0
    simp at hk
    subst hk
    refine ⟨a, e', ?_, ?_, zCe_mono (zpre_app _ _) (fun _ q => q) hc⟩
    · rw [List.getElem?_append_right (by omega), h2]; simp
    · rw [List.getElem?_append_right (by omega), h1]; simp
theorem zty_mem {tys : List (ClassId × FieldType)} {q : ClassId × FieldType} (h : q ∈ tys) : ∃ t0 : Nat, tys[t0]? = some q := List.getElem?_of_mem h
end
section
/-! ===== one step of the reading is a step of the machine ===== -/
def zlen : Instr → Nat
  | .bipush _ => 2
  | .sipush _ => 3
  | .ldc _ => 2
  | .ldc_w _ => 3
  | .ldc2_w _ => 3
  | .iload _ => 2
  | .lload _ => 2
  | .aload _ => 2
  | .istore _ => 2
  | .lstore _ => 2
  | .astore _ => 2
  | .iinc _ _ => 3
  | .getfield _ => 3
  | .putfield _ => 3
  | .new _ => 3
  | .anewarray _ => 3
  | .newarray _ => 2
  | .goto _ => 3
  | .ifCond _ _ => 3
  | .if_icmp _ _ => 3
  | .ifnull _ => 3
  | .ifnonnull _ => 3
  | .invokevirtual _ => 3
  | .invokestatic _ => 3
  | .invokespecial _ => 3
  | _ => 1
def zxf (xs : List Int) : Nat → Int32 := fun j => Int32.ofInt (xs.getD j 0)
/-- what the tables say of a field's use, of a class, of a constant -/
def zFl (cl : List vw_C) (Ts : List Cond) (own : String) (idx ci j : Nat) : Prop := ∃ (T : u_T) (N : Nat), cl[ci]? = some (own, T, N) ∧ j < N ∧ (T j).1 = own ∧ Cond.fieldLink own idx own (T j).2.1 (T j).2.2.1 ∈ Ts
def zKd (k : Nat) (ty : FieldType) : Prop := match k with
  | 0 => ty = .int
  | 1 => ty = .long
  | 2 => (∃ n, ty = .object n) ∨ ∃ t, ty = .array t
  | 3 => ty = .boolean
  | _ => False
def zPf (cl : List vw_C) (Ts : List Cond) (own : String) (ctor : Bool) (idx ci j k : Nat) : Prop := ∃ (T : u_T) (N : Nat), cl[ci]? = some (own, T, N) ∧ j < N ∧ (T j).1 = own ∧ Cond.fieldLink own idx own (T j).2.1 (T j).2.2.1 ∈ Ts ∧ (∃ ty, parseFieldDescriptor (T j).2.2.1 = some ty ∧ zKd k ty) ∧ ((T j).2.2.2 = false ∨ ctor = true)
def zCl (cl : List vw_C) (Ts : List Cond) : Prop := ∀ (ci : Nat) (C : String) (T : u_T) (N : Nat), cl[ci]? = some (C, T, N) → (∀ w ∈ u_ws C T N, w ∈ Ts) ∧ (∃ ty : Nat → FieldType, ∀ k, k < N → parseFieldDescriptor (T k).2.2.1 = some (ty k)) ∧ (∀ a, a < N → ∀ b, b < N → a ≠ b → (T a).2.1 ≠ (T b).2.1) ∧ Cond.instantiable C N ∈ Ts ∧ Cond.initialized C ∈ Ts ∧ ci < 100
def zNw (cl : List vw_C) (Ts : List Cond) (own : String) (idx ci : Nat) (ks : List Nat) : Prop := ∃ (C : String) (T : u_T) (N : Nat), cl[ci]? = some (C, T, N) ∧ ks.length = N ∧ Cond.classLink own idx C ∈ Ts ∧ ∀ (j k : Nat), ks[j]? = some k → ∃ ty, parseFieldDescriptor (T j).2.2.1 = some ty ∧ ((k = 0 ∧ (ty = .int ∨ ty = .boolean)) ∨ (k = 1 ∧ ty = .long) ∨ (k = 2 ∧ ((∃ n, ty = .object n) ∨ ∃ t, ty = .array t)))
def zOK (cl : List vw_C) (Ts : List Cond) (own : String) (ctor : Bool) (nL : Nat) (cc : ByteArray) (pc : Nat) (I : Instr) (x : List Nat) (c : Int) : Prop := decode cc pc = .ok (I, zlen I) ∧ match I with
  | .bipush n => -128 ≤ n ∧ n ≤ 127
  | .sipush n => -32768 ≤ n ∧ n ≤ 32767
  | .ldc i => Cond.constant own i (Int32.ofInt c) ∈ Ts
  | .ldc_w i => Cond.constant own i (Int32.ofInt c) ∈ Ts
  | .ldc2_w i => Cond.constantLong own i (Int64.ofInt c) ∈ Ts
  | .istore i => i < nL
  | .istore_n i => (i : Nat) < nL
  | .astore i => i < nL
  | .astore_n i => (i : Nat) < nL
  | .lstore i => i + 1 < nL
  | .lstore_n i => (i : Nat) + 1 < nL
  | .getfield i => ∃ ci j k, x = [ci, j, k] ∧ zFl cl Ts own i ci j
  | .putfield i => ∃ ci j k, x = [ci, j, k] ∧ zPf cl Ts own ctor i ci j k
  | .new i => ∃ ci ks, x = ci :: ks ∧ zNw cl Ts own i ci ks
  | .newarray t => (x = [0] ∧ t = .int ∧ Cond.arrayClass .int ∈ Ts) ∨ (x = [1] ∧ t = .long ∧ Cond.arrayClass .long ∈ Ts)
  | .anewarray i => ∃ ci C T N, x = [102 + ci] ∧ cl[ci]? = some (C, T, N) ∧ Cond.classLink own i C ∈ Ts ∧ Cond.arrayOver (.object C) ∈ Ts
  | .aaload => ∃ ci, x = [102 + ci]
  | .aastore => ∃ ci, x = [102 + ci, ci]
  | _ => True
theorem zfit_r {ads : List Nat} {r : Option Nat} {V : Value} {ty : FieldType} (h : zcR ads (.inr (.inr r)) V) (ht : (∃ n, ty = .object n) ∨ ∃ t, ty = .array t) : narrow ty V = V ∧ fits ty V = true := by
  rcases r with _ | p
  · cases h
    rcases ht with ⟨n, rfl⟩ | ⟨t, rfl⟩ <;> exact ⟨rfl, rfl⟩
  · obtain ⟨a, -, rfl⟩ := h
    rcases ht with ⟨n, rfl⟩ | ⟨t, rfl⟩ <;> exact ⟨rfl, rfl⟩
theorem zfit_b {x : Int} (h : x = 0 ∨ x = 1) : narrow .boolean (.int (Int32.ofInt x)) = .int (Int32.ofInt x) ∧ fits .boolean (.int (Int32.ofInt x)) = true := by
  rcases h with rfl | rfl <;> exact ⟨by decide, by decide⟩
/-- the place where a field is read -/
theorem zfd_some {h : zH} {r : Option Nat} {ci j : Nat} {v : zV} (q : zfd h r ci j = some v) : ∃ p c, r = some (p + 1) ∧ h[p]? = some c ∧ c.1 = ci ∧ c.2[j]? = some v := by
  rcases r with _ | _ | p
  · cases q
  · cases q
  · unfold zfd at q
    dsimp only at q
    cases hc : h[p]? with
    | none => rw [hc] at q; cases q
    | some c =>
      rw [hc] at q
      dsimp only at q
      split at q
      next he => exact ⟨p, c, rfl, hc, he, q⟩
      next => cases q
theorem zpf_some {h : zH} {r : Option Nat} {ci j : Nat} {v : zV} {f : zH → Option zR} {res : zR} (q : zpf h r ci j v f = some res) : ∃ p c, r = some (p + 1) ∧ h[p]? = some c ∧ c.1 = ci ∧ j < c.2.length ∧ f (h.set p (c.1, c.2.set j v)) = some res := by
  rcases r with _ | _ | p
  · cases q
  · cases q
  · unfold zpf at q
    dsimp only at q
    cases hc : h[p]? with
    | none => rw [hc] at q; cases q
    | some c =>
      rw [hc] at q
      dsimp only at q
      split at q
      next he => exact ⟨p, c, rfl, hc, he.1, he.2, q⟩
      next => cases q
theorem zst_some {h : zH} {r : Option Nat} {tag : Nat} {i : Int} {v : zV} {f : zH → Option zR} {res : zR} (q : zst h r tag i v f = some res) : ∃ p c, r = some (p + 1) ∧ h[p]? = some c ∧ c.1 = tag ∧ 0 ≤ zw i ∧ (zw i).toNat < c.2.length ∧ f (h.set p (c.1, c.2.set (zw i).toNat v)) = some res := by
  rcases r with _ | _ | p
  · cases q
  · cases q
  · unfold zst at q
    dsimp only at q
    cases hc : h[p]? with
    | none => rw [hc] at q; cases q
    | some c =>
      rw [hc] at q
      dsimp only at q
      split at q
      next he => exact ⟨p, c, rfl, hc, he.1, he.2.1, he.2.2, q⟩
      next => cases q
theorem zar_some {xs : List Int} {h : zH} {r : Option Nat} {tag : Nat} {i : Int} {v : zV} (q : zar xs h r tag i = some v) : 0 ≤ zw i ∧ ((r = some 0 ∧ tag = 100 ∧ ∃ x, xs[(zw i).toNat]? = some x ∧ v = .inl x) ∨ ∃ p c, r = some (p + 1) ∧ h[p]? = some c ∧ c.1 = tag ∧ c.2[(zw i).toNat]? = some v) := by
  rcases r with _ | _ | p
  · cases q
  · unfold zar at q
    dsimp only at q
    split at q
    next he =>
      refine ⟨he.2, Or.inl ⟨rfl, he.1, ?_⟩⟩
      cases hx : xs[(zw i).toNat]? with
      | none => rw [hx] at q; cases q
      | some x => rw [hx] at q; cases q; exact ⟨x, rfl, rfl⟩
    next => cases q
  · unfold zar at q
    dsimp only at q
    cases hc : h[p]? with
    | none => rw [hc] at q; cases q
    | some c =>
      rw [hc] at q
      dsimp only at q
      split at q
      next he => exact ⟨he.2, Or.inr ⟨p, c, rfl, hc, he.1, q⟩⟩
      next => cases q
theorem zRep_obj {cl : List vw_C} {ads : List Nat} {tys : List (ClassId × FieldType)} {ws : va_W} {h : zH} (hR : zRep cl ads tys ws h) {p a : Nat} {c : Nat × List zV} (hp : h[p]? = some c) (ht : c.1 < 100) (ha : ads[p + 1]? = some a) : ∃ fs, ws[p]? = some (a, .inr (c.1, fs)) ∧ zSt ads c.2 fs := by
  obtain ⟨a1, e, q1, q2, q3⟩ := hR.2.2 p c hp
  cases ha.symm.trans q1
  rcases q3 with ⟨-, fs, rfl, h3⟩ | ⟨h1, -⟩ | ⟨h1, -⟩ | ⟨h1, -⟩
  · exact ⟨fs, q2, h3⟩
  · omega
  · omega
  · omega
theorem zRep_int {cl : List vw_C} {ads : List Nat} {tys : List (ClassId × FieldType)} {ws : va_W} {h : zH} (hR : zRep cl ads tys ws h) {p a : Nat} {c : Nat × List zV} (hp : h[p]? = some c) (ht : c.1 = 100) (ha : ads[p + 1]? = some a) : ∃ (cA : ClassId) (f : Nat → Int32), ws[p]? = some (a, .inl (cA, c.2.length, .inl f)) ∧ (cA, FieldType.int) ∈ tys ∧ ∀ (j : Nat) (v : zV), c.2[j]? = some v → ∃ x, v = .inl x ∧ f j = Int32.ofInt x := by
  obtain ⟨a1, e, q1, q2, q3⟩ := hR.2.2 p c hp
  cases ha.symm.trans q1
  rcases q3 with ⟨h1, -⟩ | ⟨-, cA, f, rfl, h3, h4⟩ | ⟨h1, -⟩ | ⟨h1, -⟩
  · omega
  · exact ⟨cA, f, q2, h3, h4⟩
  · omega
  · omega
theorem zRep_long {cl : List vw_C} {ads : List Nat} {tys : List (ClassId × FieldType)} {ws : va_W} {h : zH} (hR : zRep cl ads tys ws h) {p a : Nat} {c : Nat × List zV} (hp : h[p]? = some c) (ht : c.1 = 101) (ha : ads[p + 1]? = some a) : ∃ (cA : ClassId) (f : Nat → Int64), ws[p]? = some (a, .inl (cA, c.2.length, .inr (.inl f))) ∧ (cA, FieldType.long) ∈ tys ∧ ∀ (j : Nat) (v : zV), c.2[j]? = some v → ∃ x, v = .inr (.inl x) ∧ f j = Int64.ofInt x := by
  obtain ⟨a1, e, q1, q2, q3⟩ := hR.2.2 p c hp
  cases ha.symm.trans q1
  rcases q3 with ⟨h1, -⟩ | ⟨h1, -⟩ | ⟨-, cA, f, rfl, h3, h4⟩ | ⟨h1, -⟩
  · omega
  · omega
  · exact ⟨cA, f, q2, h3, h4⟩
  · omega
theorem zRep_ref {cl : List vw_C} {ads : List Nat} {tys : List (ClassId × FieldType)} {ws : va_W} {h : zH} (hR : zRep cl ads tys ws h) {p a : Nat} {c : Nat × List zV} (hp : h[p]? = some c) (ht : 102 ≤ c.1) (ha : ads[p + 1]? = some a) : ∃ (cA : ClassId) (f : Nat → Option Nat) (r : vw_C), ws[p]? = some (a, .inl (cA, c.2.length, .inr (.inr (.inr (.inr f))))) ∧ cl[c.1 - 102]? = some r ∧ (cA, FieldType.object r.1) ∈ tys ∧ ∀ (j : Nat) (v : zV), c.2[j]? = some v → ∃ x, v = .inr (.inr x) ∧ zcR ads (.inr (.inr x)) (va_rf (f j)) := by
  obtain ⟨a1, e, q1, q2, q3⟩ := hR.2.2 p c hp
  cases ha.symm.trans q1
  rcases q3 with ⟨h1, -⟩ | ⟨h1, -⟩ | ⟨h1, -⟩ | ⟨-, cA, f, r, rfl, h3, h4, h5⟩
  · omega
  · omega
  · omega
  · exact ⟨cA, f, r, q2, h3, h4, h5⟩
theorem zRep_arr {cl : List vw_C} {ads : List Nat} {tys : List (ClassId × FieldType)} {ws : va_W} {h : zH} (hR : zRep cl ads tys ws h) {p a : Nat} {c : Nat × List zV} (hp : h[p]? = some c) (ht : 100 ≤ c.1) (ha : ads[p + 1]? = some a) : ∃ (cA : ClassId) (x : vp_A) (ty : FieldType), ws[p]? = some (a, .inl (cA, x)) ∧ (cA, ty) ∈ tys ∧ x.1 = c.2.length := by
  obtain ⟨a1, e, q1, q2, q3⟩ := hR.2.2 p c hp
  cases ha.symm.trans q1
  rcases q3 with ⟨h1, -⟩ | ⟨-, cA, f, rfl, h3, -⟩ | ⟨-, cA, f, rfl, h3, -⟩ | ⟨-, cA, f, r, rfl, -, h4, -⟩
  · omega
  · exact ⟨cA, _, _, q2, h3, rfl⟩
  · exact ⟨cA, _, _, q2, h3, rfl⟩
  · exact ⟨cA, _, _, q2, h4, rfl⟩
theorem zofNat (n : Nat) : Int32.ofNat n = Int32.ofInt (n : Int) := by
  apply Int32.toBitVec_inj.mp
  simp
def zdfv : Nat → Value
  | 0 => .int 0
  | 1 => .long 0
  | _ => .null
theorem zdfv_ok (ads : List Nat) : ∀ ks : List Nat, zSt ads (ks.map fun t => match t with | 0 => .inl 0 | 1 => .inr (.inl 0) | _ => .inr (.inr none)) (ks.map zdfv)
  | [] => trivial
  | 0 :: ks => ⟨rfl, zdfv_ok ads ks⟩
  | 1 :: ks => ⟨rfl, zdfv_ok ads ks⟩
  | (_ + 2) :: ks => ⟨rfl, zdfv_ok ads ks⟩
section ZSIM
variable {p : Program} {l : Launch} {e : Env} {R : Room} {s : State} {m : MethodId} {args : Array Value} {below : List Frame} {meth : Method} {c : Code} {Q : State → Prop}
variable {cc : ByteArray} {nL : Nat} {own : String} {D : va_G} {cl : List vw_C} {A : Nat → Prop} {xs : List Int} {ads0 : List Nat} {n0 z0 : Nat} {Ts : List Cond} {ctor : Bool}
/-- the method's own circumstances -/
def zCtx (p : Program) (s : State) (m : MethodId) (args : Array Value) (meth : Method) (c : Code) (cc : ByteArray) (nL : Nat) (own : String) (ctor : Bool) (cl : List vw_C) (A : Nat → Prop) (xs : List Int) (ads0 : List Nat) (Ts : List Cond) : Prop :=
  p.tables.exec = Jvm.exec ∧ c.code = cc ∧ c.maxLocals = nL ∧ (∀ w ∈ Ts, w.before args s = true) ∧ s.vm.findClass own = some m.cls ∧ (∀ q, s.heap.size ≤ q → A q) ∧ zCl cl Ts ∧ (ctor = true → meth.name = "<init>") ∧ ∃ b, ads0[0]? = some b ∧ va_X b xs.length (zxf xs) s s.heap ∧ b < s.heap.size ∧ ¬ A b
def zSim (p : Program) (l : Launch) (e : Env) (R : Room) (s : State) (m : MethodId) (args : Array Value) (below : List Frame) (meth : Method) (c : Code) (Q : State → Prop) (nL : Nat) (D : va_G) (cl : List vw_C) (A : Nat → Prop) (ads0 : List Nat) (n0 z0 : Nat) (pc : Nat) (L : zL) (st : List zV) (h : zH) : Prop :=
  ∀ (ls : Array Slot) (sv : List Value) (H : Heap) (locs : List Loc) (cells slots : Nat) (ads : List Nat) (tys : List (ClassId × FieldType)) (ws : va_W), zLo ads nL L ls → zSt ads st sv → zRep cl ads tys ws h → zpre ads0 ads → va_K D cl tys s → va_P D cl ws H → va_D A ws → va_S A s.heap H locs → cells + n0 = h.length → slots + z0 = zsz h → W p l e R s m args below meth c H locs cells slots Q (F0 m pc ls sv)
theorem zS_arith (C0 : zCtx p s m args meth c cc nL own ctor cl A xs ads0 Ts) {pc : Nat} {I : Instr} {x : List Nat} {cv : Int} {L : zL} {st : List zV} {h : zH} {k : zL → List zV → zH → Option zR} {res : zR} (ok : zOK cl Ts own ctor nL cc pc I x cv)
    (hk : ∀ L' st' h', k L' st' h' = some res → zSim p l e R s m args below meth c Q nL D cl A ads0 n0 z0 (pc + zlen I) L' st' h') (hr : ∀ L' st' h', k L' st' h' = some res → h'.length ≤ R.cells + n0 ∧ zsz h' ≤ R.slots + z0)
    (q : zS xs I x cv L st h k = some res) : zSim p l e R s m args below meth c Q nL D cl A ads0 n0 z0 pc L st h := by
  intro ls sv H locs cells slots ads tys ws hL hst hR hpre hK hP hD hS hn hz
  obtain ⟨hx, hb, hml, hts, hown, hA, hcl, hct, b, hb0, hX, hbl, hbA⟩ := C0
  obtain ⟨hd, ok⟩ := ok
  cases I
  case iconst n => exact lv_iconst hx hb hd rfl (hk _ _ _ q _ _ _ _ _ _ _ _ _ hL ⟨rfl, hst⟩ hR hpre hK hP hD hS hn hz)
  case bipush n => exact lv_bipush hx hb hd (zw_bip ok.1 ok.2) (hk _ _ _ q _ _ _ _ _ _ _ _ _ hL ⟨rfl, hst⟩ hR hpre hK hP hD hS hn hz)
  case sipush n => exact lv_sipush hx hb hd (zw_sip ok.1 ok.2) (hk _ _ _ q _ _ _ _ _ _ _ _ _ hL ⟨rfl, hst⟩ hR hpre hK hP hD hS hn hz)
  case ldc i => exact lv_ldc hx hb hown (hts _ ok) hd (hk _ _ _ q _ _ _ _ _ _ _ _ _ hL ⟨rfl, hst⟩ hR hpre hK hP hD hS hn hz)
  case ldc_w i => exact lv_ldcw hx hb hown (hts _ ok) hd (hk _ _ _ q _ _ _ _ _ _ _ _ _ hL ⟨rfl, hst⟩ hR hpre hK hP hD hS hn hz)
  case ldc2_w i => exact lv_ldc2 hx hb hown (hts _ ok) hd (hk _ _ _ q _ _ _ _ _ _ _ _ _ hL ⟨rfl, hst⟩ hR hpre hK hP hD hS hn hz)
  case lconst n => exact lv_lconst (v := Int64.ofInt ((n : Nat) : Int)) hx hb hd (by clear hk hr q hd ok; revert n; decide) (hk _ _ _ q _ _ _ _ _ _ _ _ _ hL ⟨rfl, hst⟩ hR hpre hK hP hD hS hn hz)
  case aconst_null => exact lv_null hx hb hd (hk _ _ _ q _ _ _ _ _ _ _ _ _ hL ⟨rfl, hst⟩ hR hpre hK hP hD hS hn hz)
  case iload i =>
    simp only [zS] at q
    split at q
    next v hv =>
      obtain ⟨V, e1, e2⟩ := zLo_ld hL hv
      cases e2
      exact lv_iload hx hb hd e1 (hk _ _ _ q _ _ _ _ _ _ _ _ _ hL ⟨rfl, hst⟩ hR hpre hK hP hD hS hn hz)
    next => cases q
  case iload_n i =>
    simp only [zS] at q
    split at q
    next v hv =>
      obtain ⟨V, e1, e2⟩ := zLo_ld hL hv
      cases e2
      exact lv_iload_n hx hb hd rfl e1 (hk _ _ _ q _ _ _ _ _ _ _ _ _ hL ⟨rfl, hst⟩ hR hpre hK hP hD hS hn hz)
    next => cases q
  case lload i =>
    simp only [zS] at q
    split at q
    next v hv =>
      obtain ⟨V, e1, e2⟩ := zLo_ld hL hv
      cases e2
      exact lv_lload hx hb hd e1 (hk _ _ _ q _ _ _ _ _ _ _ _ _ hL ⟨rfl, hst⟩ hR hpre hK hP hD hS hn hz)
    next => cases q
  case lload_n i =>
    simp only [zS] at q
    split at q
    next v hv =>
      obtain ⟨V, e1, e2⟩ := zLo_ld hL hv
      cases e2
      exact lv_lload_n hx hb hd rfl e1 (hk _ _ _ q _ _ _ _ _ _ _ _ _ hL ⟨rfl, hst⟩ hR hpre hK hP hD hS hn hz)
    next => cases q
  case aload i =>
    simp only [zS] at q
    split at q
    next v hv =>
      obtain ⟨V, e1, e2⟩ := zLo_ld hL hv
      rcases v with _ | v
      · cases e2
        exact lv_aloadN hx hb hd e1 (hk _ _ _ q _ _ _ _ _ _ _ _ _ hL ⟨rfl, hst⟩ hR hpre hK hP hD hS hn hz)
      · obtain ⟨a, e3, rfl⟩ := e2
        exact lv_aload hx hb hd e1 (hk _ _ _ q _ _ _ _ _ _ _ _ _ hL ⟨⟨a, e3, rfl⟩, hst⟩ hR hpre hK hP hD hS hn hz)
    next => cases q
  case aload_n i =>
    simp only [zS] at q
    split at q
    next v hv =>
      obtain ⟨V, e1, e2⟩ := zLo_ld hL hv
      rcases v with _ | v
      · cases e2
        exact lv_aload_nN hx hb hd rfl e1 (hk _ _ _ q _ _ _ _ _ _ _ _ _ hL ⟨rfl, hst⟩ hR hpre hK hP hD hS hn hz)
      · obtain ⟨a, e3, rfl⟩ := e2
        exact lv_aload_n hx hb hd rfl e1 (hk _ _ _ q _ _ _ _ _ _ _ _ _ hL ⟨⟨a, e3, rfl⟩, hst⟩ hR hpre hK hP hD hS hn hz)
    next => cases q
  case istore i =>
    rcases st with _ | ⟨v | v | v, st⟩ <;> first | (cases q; done) | skip
    obtain ⟨T, rfl, hst1⟩ := zSt_i hst
    obtain ⟨lv, hlv, hc⟩ := zLo_lv hL
    exact lv_istore hx hb hd hlv ok rfl (fun ls' hlz => hk _ _ _ q _ _ _ _ _ _ _ _ _ (zLo_s1 hc rfl hlz) hst1 hR hpre hK hP hD hS hn hz)
  case istore_n i =>
    rcases st with _ | ⟨v | v | v, st⟩ <;> first | (cases q; done) | skip
    obtain ⟨T, rfl, hst1⟩ := zSt_i hst
    obtain ⟨lv, hlv, hc⟩ := zLo_lv hL
    exact lv_istore_n hx hb hd rfl hlv ok rfl (fun ls' hlz => hk _ _ _ q _ _ _ _ _ _ _ _ _ (zLo_s1 hc rfl hlz) hst1 hR hpre hK hP hD hS hn hz)
  case lstore i =>
    rcases st with _ | ⟨v | v | v, st⟩ <;> first | (cases q; done) | skip
    obtain ⟨T, rfl, hst1⟩ := zSt_l hst
    obtain ⟨lv, hlv, hc⟩ := zLo_lv hL
    exact lv_lstore hx hb hd hlv ok rfl (fun ls' hlz => hk _ _ _ q _ _ _ _ _ _ _ _ _ (zLo_s2 hc rfl hlz) hst1 hR hpre hK hP hD hS hn hz)
  case lstore_n i =>
    rcases st with _ | ⟨v | v | v, st⟩ <;> first | (cases q; done) | skip
    obtain ⟨T, rfl, hst1⟩ := zSt_l hst
    obtain ⟨lv, hlv, hc⟩ := zLo_lv hL
    exact lv_lstore_n hx hb hd rfl hlv ok rfl (fun ls' hlz => hk _ _ _ q _ _ _ _ _ _ _ _ _ (zLo_s2 hc rfl hlz) hst1 hR hpre hK hP hD hS hn hz)
  case astore i =>
    rcases st with _ | ⟨v | v | v, st⟩ <;> first | (cases q; done) | skip
    obtain ⟨V, T, rfl, hv, hst1⟩ := zSt_r hst
    obtain ⟨lv, hlv, hc⟩ := zLo_lv hL
    rcases v with _ | v
    · cases hv
      exact lv_astoreN hx hb hd hlv ok rfl (fun ls' hlz => hk _ _ _ q _ _ _ _ _ _ _ _ _ (zLo_s1 hc rfl hlz) hst1 hR hpre hK hP hD hS hn hz)
    · obtain ⟨a, e3, rfl⟩ := hv
      exact lv_astore hx hb hd hlv ok rfl (fun ls' hlz => hk _ _ _ q _ _ _ _ _ _ _ _ _ (zLo_s1 hc ⟨a, e3, rfl⟩ hlz) hst1 hR hpre hK hP hD hS hn hz)
  case astore_n i =>
    rcases st with _ | ⟨v | v | v, st⟩ <;> first | (cases q; done) | skip
    obtain ⟨V, T, rfl, hv, hst1⟩ := zSt_r hst
    obtain ⟨lv, hlv, hc⟩ := zLo_lv hL
    rcases v with _ | v
    · cases hv
      exact lv_astore_nN hx hb hd rfl hlv ok rfl (fun ls' hlz => hk _ _ _ q _ _ _ _ _ _ _ _ _ (zLo_s1 hc rfl hlz) hst1 hR hpre hK hP hD hS hn hz)
    · obtain ⟨a, e3, rfl⟩ := hv
      exact lv_astore_n hx hb hd rfl hlv ok rfl (fun ls' hlz => hk _ _ _ q _ _ _ _ _ _ _ _ _ (zLo_s1 hc ⟨a, e3, rfl⟩ hlz) hst1 hR hpre hK hP hD hS hn hz)
  case iinc i n =>
    simp only [zS] at q
    split at q
    next v hv =>
      obtain ⟨V, e1, e2⟩ := zLo_ld hL hv
      cases e2
      obtain ⟨lv, hlv, hc⟩ := zLo_lv hL
      have hlv2 : lv_has ls nL ((i, .int (Int32.ofInt v)) :: lv) := ⟨hlv.1, hlv.2.1, fun q hq => by
        rcases List.mem_cons.mp hq with rfl | hq
        · exact e1
        · exact hlv.2.2 q hq⟩
      have hi : i < nL := by rw [← hL.1]; exact lv_lt e1
      exact lv_iinc (k := 0) hx hb hd hlv2 rfl (Int32.ofInt_add v n).symm hi rfl (fun ls' hlz => hk _ _ _ q _ _ _ _ _ _ _ _ _ (zLo_s1 (fun j w hw => by obtain ⟨W, z1, z2⟩ := hc j w hw; exact ⟨W, List.mem_cons_of_mem _ z1, z2⟩) rfl hlz) hst hR hpre hK hP hD hS hn hz)
    next => cases q
  case iadd =>
    rcases st with _ | ⟨b | b | b, _ | ⟨a | a | a, st⟩⟩ <;> first | (cases q; done) | skip
    obtain ⟨T, rfl, hst1⟩ := zSt_i hst
    obtain ⟨T, rfl, hst2⟩ := zSt_i hst1
    exact lv_iadd hx hb hd (hk _ _ _ q _ _ _ _ _ _ _ _ _ hL ⟨by show _ = _; rw [Int32.ofInt_add], hst2⟩ hR hpre hK hP hD hS hn hz)
  case isub =>
    rcases st with _ | ⟨b | b | b, _ | ⟨a | a | a, st⟩⟩ <;> first | (cases q; done) | skip
    obtain ⟨T, rfl, hst1⟩ := zSt_i hst
    obtain ⟨T, rfl, hst2⟩ := zSt_i hst1
    exact lv_isub hx hb hd (hk _ _ _ q _ _ _ _ _ _ _ _ _ hL ⟨by show _ = _; rw [Int32.ofInt_sub], hst2⟩ hR hpre hK hP hD hS hn hz)
  case imul =>
    rcases st with _ | ⟨b | b | b, _ | ⟨a | a | a, st⟩⟩ <;> first | (cases q; done) | skip
    obtain ⟨T, rfl, hst1⟩ := zSt_i hst
    obtain ⟨T, rfl, hst2⟩ := zSt_i hst1
    exact lv_imul hx hb hd (hk _ _ _ q _ _ _ _ _ _ _ _ _ hL ⟨by show _ = _; rw [Int32.ofInt_mul], hst2⟩ hR hpre hK hP hD hS hn hz)
  case iand =>
    rcases st with _ | ⟨b | b | b, _ | ⟨a | a | a, st⟩⟩ <;> first | (cases q; done) | skip
    obtain ⟨T, rfl, hst1⟩ := zSt_i hst
    obtain ⟨T, rfl, hst2⟩ := zSt_i hst1
    exact lv_iand hx hb hd (hk _ _ _ q _ _ _ _ _ _ _ _ _ hL ⟨by show _ = _; unfold zand; rw [Int32.ofInt_toInt], hst2⟩ hR hpre hK hP hD hS hn hz)
  case ior =>
    rcases st with _ | ⟨b | b | b, _ | ⟨a | a | a, st⟩⟩ <;> first | (cases q; done) | skip
    obtain ⟨T, rfl, hst1⟩ := zSt_i hst
    obtain ⟨T, rfl, hst2⟩ := zSt_i hst1
    exact lv_ior hx hb hd (hk _ _ _ q _ _ _ _ _ _ _ _ _ hL ⟨by show _ = _; unfold zor; rw [Int32.ofInt_toInt], hst2⟩ hR hpre hK hP hD hS hn hz)
  case ishl =>
    rcases st with _ | ⟨b | b | b, _ | ⟨a | a | a, st⟩⟩ <;> first | (cases q; done) | skip
    obtain ⟨T, rfl, hst1⟩ := zSt_i hst
    obtain ⟨T, rfl, hst2⟩ := zSt_i hst1
    exact lv_ishl hx hb hd (hk _ _ _ q _ _ _ _ _ _ _ _ _ hL ⟨by show _ = _; unfold zshl; rw [Int32.ofInt_toInt], hst2⟩ hR hpre hK hP hD hS hn hz)
  case ishr =>
    rcases st with _ | ⟨b | b | b, _ | ⟨a | a | a, st⟩⟩ <;> first | (cases q; done) | skip
    obtain ⟨T, rfl, hst1⟩ := zSt_i hst
    obtain ⟨T, rfl, hst2⟩ := zSt_i hst1
    exact lv_ishr hx hb hd (hk _ _ _ q _ _ _ _ _ _ _ _ _ hL ⟨by show _ = _; unfold zshr; rw [Int32.ofInt_toInt], hst2⟩ hR hpre hK hP hD hS hn hz)
  case iushr =>
    rcases st with _ | ⟨b | b | b, _ | ⟨a | a | a, st⟩⟩ <;> first | (cases q; done) | skip
    obtain ⟨T, rfl, hst1⟩ := zSt_i hst
    obtain ⟨T, rfl, hst2⟩ := zSt_i hst1
    exact lv_iushr hx hb hd rfl (hk _ _ _ q _ _ _ _ _ _ _ _ _ hL ⟨by show _ = _; unfold zushr; rw [Int32.ofInt_toInt], hst2⟩ hR hpre hK hP hD hS hn hz)
  case idiv =>
    rcases st with _ | ⟨b | b | b, _ | ⟨a | a | a, st⟩⟩ <;> first | (cases q; done) | skip
    obtain ⟨T, rfl, hst1⟩ := zSt_i hst
    obtain ⟨T, rfl, hst2⟩ := zSt_i hst1
    simp only [zS] at q
    split at q
    next => cases q
    next h0 => exact lv_idiv hx hb hd (fun z => h0 ((zw_eq0 b).mp z)) (hk _ _ _ q _ _ _ _ _ _ _ _ _ hL ⟨by show _ = _; rw [zw_div], hst2⟩ hR hpre hK hP hD hS hn hz)
  case irem =>
    rcases st with _ | ⟨b | b | b, _ | ⟨a | a | a, st⟩⟩ <;> first | (cases q; done) | skip
    obtain ⟨T, rfl, hst1⟩ := zSt_i hst
    obtain ⟨T, rfl, hst2⟩ := zSt_i hst1
    simp only [zS] at q
    split at q
    next => cases q
    next h0 => exact lv_irem hx hb hd (fun z => h0 ((zw_eq0 b).mp z)) (hk _ _ _ q _ _ _ _ _ _ _ _ _ hL ⟨by show _ = _; rw [zw_mod], hst2⟩ hR hpre hK hP hD hS hn hz)
  case ineg =>
    rcases st with _ | ⟨a | a | a, st⟩ <;> first | (cases q; done) | skip
    obtain ⟨T, rfl, hst1⟩ := zSt_i hst
    exact lv_ineg hx hb hd (hk _ _ _ q _ _ _ _ _ _ _ _ _ hL ⟨by show _ = _; rw [Int32.ofInt_neg], hst1⟩ hR hpre hK hP hD hS hn hz)
  case i2l =>
    rcases st with _ | ⟨a | a | a, st⟩ <;> first | (cases q; done) | skip
    obtain ⟨T, rfl, hst1⟩ := zSt_i hst
    exact lv_i2l hx hb hd (zw_i2l a) (hk _ _ _ q _ _ _ _ _ _ _ _ _ hL ⟨rfl, hst1⟩ hR hpre hK hP hD hS hn hz)
  case l2i =>
    rcases st with _ | ⟨a | a | a, st⟩ <;> first | (cases q; done) | skip
    obtain ⟨T, rfl, hst1⟩ := zSt_l hst
    exact lv_l2i hx hb hd (zw_l2i a) (hk _ _ _ q _ _ _ _ _ _ _ _ _ hL ⟨rfl, hst1⟩ hR hpre hK hP hD hS hn hz)
  case ladd =>
    rcases st with _ | ⟨b | b | b, _ | ⟨a | a | a, st⟩⟩ <;> first | (cases q; done) | skip
    obtain ⟨T, rfl, hst1⟩ := zSt_l hst
    obtain ⟨T, rfl, hst2⟩ := zSt_l hst1
    exact lv_ladd hx hb hd (hk _ _ _ q _ _ _ _ _ _ _ _ _ hL ⟨by show _ = _; rw [Int64.ofInt_add], hst2⟩ hR hpre hK hP hD hS hn hz)
  case lsub =>
    rcases st with _ | ⟨b | b | b, _ | ⟨a | a | a, st⟩⟩ <;> first | (cases q; done) | skip
    obtain ⟨T, rfl, hst1⟩ := zSt_l hst
    obtain ⟨T, rfl, hst2⟩ := zSt_l hst1
    exact lv_lsub hx hb hd (hk _ _ _ q _ _ _ _ _ _ _ _ _ hL ⟨by show _ = _; rw [Int64.ofInt_sub], hst2⟩ hR hpre hK hP hD hS hn hz)
  case lmul =>
    rcases st with _ | ⟨b | b | b, _ | ⟨a | a | a, st⟩⟩ <;> first | (cases q; done) | skip
    obtain ⟨T, rfl, hst1⟩ := zSt_l hst
    obtain ⟨T, rfl, hst2⟩ := zSt_l hst1
    exact lv_lmul hx hb hd (hk _ _ _ q _ _ _ _ _ _ _ _ _ hL ⟨by show _ = _; rw [Int64.ofInt_mul], hst2⟩ hR hpre hK hP hD hS hn hz)
  case land =>
    rcases st with _ | ⟨b | b | b, _ | ⟨a | a | a, st⟩⟩ <;> first | (cases q; done) | skip
    obtain ⟨T, rfl, hst1⟩ := zSt_l hst
    obtain ⟨T, rfl, hst2⟩ := zSt_l hst1
    exact lv_land hx hb hd (hk _ _ _ q _ _ _ _ _ _ _ _ _ hL ⟨by show _ = _; unfold zandl; rw [Int64.ofInt_toInt], hst2⟩ hR hpre hK hP hD hS hn hz)
  case lor =>
    rcases st with _ | ⟨b | b | b, _ | ⟨a | a | a, st⟩⟩ <;> first | (cases q; done) | skip
    obtain ⟨T, rfl, hst1⟩ := zSt_l hst
    obtain ⟨T, rfl, hst2⟩ := zSt_l hst1
    exact lv_lor hx hb hd (hk _ _ _ q _ _ _ _ _ _ _ _ _ hL ⟨by show _ = _; unfold zorl; rw [Int64.ofInt_toInt], hst2⟩ hR hpre hK hP hD hS hn hz)
  case lneg =>
    rcases st with _ | ⟨a | a | a, st⟩ <;> first | (cases q; done) | skip
    obtain ⟨T, rfl, hst1⟩ := zSt_l hst
    exact lv_lneg hx hb hd (hk _ _ _ q _ _ _ _ _ _ _ _ _ hL ⟨by show _ = _; rw [Int64.ofInt_neg], hst1⟩ hR hpre hK hP hD hS hn hz)
  case ldiv =>
    rcases st with _ | ⟨b | b | b, _ | ⟨a | a | a, st⟩⟩ <;> first | (cases q; done) | skip
    obtain ⟨T, rfl, hst1⟩ := zSt_l hst
    obtain ⟨T, rfl, hst2⟩ := zSt_l hst1
    simp only [zS] at q
    split at q
    next => cases q
    next h0 => exact lv_ldiv hx hb hd (fun z => h0 ((zwl_eq0 b).mp z)) (hk _ _ _ q _ _ _ _ _ _ _ _ _ hL ⟨by show _ = _; rw [zwl_div], hst2⟩ hR hpre hK hP hD hS hn hz)
  case lrem =>
    rcases st with _ | ⟨b | b | b, _ | ⟨a | a | a, st⟩⟩ <;> first | (cases q; done) | skip
    obtain ⟨T, rfl, hst1⟩ := zSt_l hst
    obtain ⟨T, rfl, hst2⟩ := zSt_l hst1
    simp only [zS] at q
    split at q
    next => cases q
    next h0 => exact lv_lrem hx hb hd (fun z => h0 ((zwl_eq0 b).mp z)) (hk _ _ _ q _ _ _ _ _ _ _ _ _ hL ⟨by show _ = _; rw [zwl_mod], hst2⟩ hR hpre hK hP hD hS hn hz)
  case lshl =>
    rcases st with _ | ⟨b | b | b, _ | ⟨a | a | a, st⟩⟩ <;> first | (cases q; done) | skip
    obtain ⟨T, rfl, hst1⟩ := zSt_i hst
    obtain ⟨T, rfl, hst2⟩ := zSt_l hst1
    exact lv_lshl hx hb hd rfl (hk _ _ _ q _ _ _ _ _ _ _ _ _ hL ⟨by show _ = _; unfold zshll; rw [Int64.ofInt_toInt], hst2⟩ hR hpre hK hP hD hS hn hz)
  case lushr =>
    rcases st with _ | ⟨b | b | b, _ | ⟨a | a | a, st⟩⟩ <;> first | (cases q; done) | skip
    obtain ⟨T, rfl, hst1⟩ := zSt_i hst
    obtain ⟨T, rfl, hst2⟩ := zSt_l hst1
    exact lv_lushr hx hb hd rfl (hk _ _ _ q _ _ _ _ _ _ _ _ _ hL ⟨by show _ = _; unfold zushrl; rw [Int64.ofInt_toInt], hst2⟩ hR hpre hK hP hD hS hn hz)
  case lcmp =>
    rcases st with _ | ⟨b | b | b, _ | ⟨a | a | a, st⟩⟩ <;> first | (cases q; done) | skip
    obtain ⟨T, rfl, hst1⟩ := zSt_l hst
    obtain ⟨T, rfl, hst2⟩ := zSt_l hst1
    exact W.lcmp hx hb hd (hk _ _ _ q _ _ _ _ _ _ _ _ _ hL ⟨by show _ = _; rw [zwl_cmp], hst2⟩ hR hpre hK hP hD hS hn hz)
  case dup =>
    rcases st with _ | ⟨a | a | a, st⟩ <;> first | (cases q; done) | skip
    · obtain ⟨T, rfl, hst1⟩ := zSt_i hst
      exact lv_dup hx hb hd rfl (hk _ _ _ q _ _ _ _ _ _ _ _ _ hL ⟨rfl, rfl, hst1⟩ hR hpre hK hP hD hS hn hz)
    · obtain ⟨V, T, rfl, hv, hst1⟩ := zSt_r hst
      exact lv_dup hx hb hd (zcR_cat hv) (hk _ _ _ q _ _ _ _ _ _ _ _ _ hL ⟨hv, hv, hst1⟩ hR hpre hK hP hD hS hn hz)
  case dup2 =>
    rcases st with _ | ⟨b | b | b, _ | ⟨a | a | a, st⟩⟩ <;> first | (cases q; done) | skip
    obtain ⟨T, rfl, hst1⟩ := zSt_i hst
    obtain ⟨V, T, rfl, hv, hst2⟩ := zSt_r hst1
    exact lv_dup2_11 hx hb hd rfl (zcR_cat hv) (hk _ _ _ q _ _ _ _ _ _ _ _ _ hL ⟨rfl, hv, rfl, hv, hst2⟩ hR hpre hK hP hD hS hn hz)
  case pop =>
    rcases st with _ | ⟨a | a | a, st⟩ <;> first | (cases q; done) | skip
    · obtain ⟨T, rfl, hst1⟩ := zSt_i hst
      exact lv_pop hx hb hd rfl (hk _ _ _ q _ _ _ _ _ _ _ _ _ hL hst1 hR hpre hK hP hD hS hn hz)
    · obtain ⟨V, T, rfl, hv, hst1⟩ := zSt_r hst
      exact lv_pop hx hb hd (zcR_cat hv) (hk _ _ _ q _ _ _ _ _ _ _ _ _ hL hst1 hR hpre hK hP hD hS hn hz)
  case getfield i =>
    obtain ⟨ci, j, kd, rfl, T, N, hc, hj, hT1, hlink⟩ := ok
    have hcc := hcl ci _ _ _ hc
    have main : ∀ (r : Option Nat) (v : zV) (st' : List zV), st = .inr (.inr r) :: st' → zfd h r ci j = some v → zSim p l e R s m args below meth c Q nL D cl A ads0 n0 z0 (pc + 3) L (v :: st') h → W p l e R s m args below meth c H locs cells slots Q (F0 m pc ls sv) := by
      intro r v st' hst0 hv hkk
      subst hst0
      obtain ⟨p', c', rfl, hp, hci, hcj⟩ := zfd_some hv
      obtain ⟨V, sv', rfl, hV, hst1⟩ := zSt_r hst
      obtain ⟨a, ha, rfl⟩ := hV
      obtain ⟨fs, he, hfs⟩ := zRep_obj hR hp (by rw [hci]; exact hcc.2.2.2.2.2) ha
      rw [hci] at he
      obtain ⟨V2, g1, g2⟩ := zSt_get hfs hcj
      exact va_get hx hb hts hcc.1 hown hK hP p' he hc j hj (hts _ hlink) (fun x h9 => by rw [hT1] at h9; exact h9) g1 hd (hkk _ _ _ _ _ _ _ _ _ hL ⟨g2, hst1⟩ hR hpre hK hP hD hS hn hz)
    rcases kd with _ | _ | _ | kd <;> rcases st with _ | ⟨a | a | r, st⟩ <;> first | (cases q; done) | skip
    · simp only [zS, zgi] at q
      split at q
      next v hv => exact main r _ st rfl hv (hk _ _ _ q)
      next => cases q
    · simp only [zS, zgl] at q
      split at q
      next v hv => exact main r _ st rfl hv (hk _ _ _ q)
      next => cases q
    · simp only [zS, zgr] at q
      split at q
      next v hv => exact main r _ st rfl hv (hk _ _ _ q)
      next => cases q
  case putfield i =>
    obtain ⟨ci, j, kd, rfl, T, N, hc, hj, hT1, hlink, ⟨ty, hty, hkd⟩, hfin⟩ := ok
    obtain ⟨hcw, ⟨ty0, hty0⟩, hnm, -, -, hlt⟩ := hcl ci _ _ _ hc
    have main : ∀ (r : Option Nat) (v : zV) (st' : List zV), st = v :: .inr (.inr r) :: st' → (∀ V, zcR ads v V → narrow ty V = V ∧ fits ty V = true) → zpf h r ci j v (fun h => k L st' h) = some res → W p l e R s m args below meth c H locs cells slots Q (F0 m pc ls sv) := by
      intro r v st' hst0 hfit q1
      subst hst0
      obtain ⟨p', c', rfl, hp, hci, hlen, q2⟩ := zpf_some q1
      rcases sv with _ | ⟨V, sv⟩
      · exact hst.elim
      obtain ⟨hV0, hst0⟩ := hst
      obtain ⟨V2, sv', rfl, hV, hst1⟩ := zSt_r hst0
      obtain ⟨a, ha, rfl⟩ := hV
      obtain ⟨fs, he, hfs⟩ := zRep_obj hR hp (by rw [hci]; exact hlt) ha
      rw [hci] at he
      have hfs2 := zSt_len hfs
      obtain ⟨f1, f2⟩ := hfit V hV0
      have fin : ∀ (H1 : Heap) (locs1 : List Loc), va_P D cl (ws.set p' (a, .inr (ci, fs.set j V))) H1 → va_D A (ws.set p' (a, .inr (ci, fs.set j V))) → va_S A s.heap H1 locs1 → W p l e R s m args below meth c H1 locs1 cells slots Q (F0 m (pc + 3) ls sv') := fun H1 locs1 hP1 hD1 hS1 =>
        hk _ _ _ q2 _ _ _ _ _ _ _ _ _ hL hst1 (zRep_set hR ha (Or.inl ⟨by rw [hci]; exact hlt, fs.set j V, by rw [hci], zSt_set j hfs hV0⟩)) hpre hK hP1 hD1 hS1 (by rw [List.length_set]; exact hn) (by rw [zsz_set h p' c' _ hp (by simp)]; exact hz)
      by_cases hf0 : (T j).2.2.2 = false
      · exact va_put hx hb hts hcw ty0 hty0 hnm hown hK hP hD hS p' he hc j hj (hts _ hlink) (fun x h9 => by rw [hT1] at h9; exact h9) hf0 hty f1 f2 (by rw [hfs2]; exact hlen) hd fin
      · exact va_putF hx hb hts hcw ty0 hty0 hnm hown hK hP hD hS p' he hc j hj (hts _ hlink) (fun x h9 => by rw [hT1] at h9; exact h9) (by simpa using hf0) (hct (hfin.resolve_left hf0)) hT1 hty f1 f2 (by rw [hfs2]; exact hlen) hd fin
    rcases kd with _ | _ | _ | _ | kd <;> rcases st with _ | ⟨v | v | v, _ | ⟨a | a | r, st⟩⟩ <;> first | (cases q; done) | skip
    · cases hkd
      exact main r _ st rfl (fun V hV => by cases hV; exact ⟨rfl, rfl⟩) q
    · cases hkd
      exact main r _ st rfl (fun V hV => by cases hV; exact ⟨rfl, rfl⟩) q
    · exact main r _ st rfl (fun V hV => zfit_r hV hkd) q
    · cases hkd
      simp only [zS] at q
      split at q
      next hv => exact main r _ st rfl (fun V hV => by cases hV; exact zfit_b hv) q
      next => cases q
  case iaload =>
    rcases st with _ | ⟨i | i | i, _ | ⟨a | a | r, st⟩⟩ <;> first | (cases q; done) | skip
    simp only [zS, zai] at q
    split at q
    next v hv =>
      obtain ⟨T1, rfl, hst1⟩ := zSt_i hst
      obtain ⟨V, T2, rfl, hV, hst2⟩ := zSt_r hst1
      obtain ⟨h0, ⟨rfl, -, x0, hx0, hx1⟩ | ⟨p', c', rfl, hp, htag, hcj⟩⟩ := zar_some hv
      · cases hx1
        obtain ⟨a, ha, rfl⟩ := hV
        have hab : a = b := Option.some.inj (ha.symm.trans (hpre _ _ hb0))
        subst hab
        have hlt := (List.getElem?_eq_some_iff.mp hx0).1
        refine va_sld hx hb hX hbl hbA hS (zw_in h0 hlt) hd ?_
        refine hk _ _ _ q _ _ _ _ _ _ _ _ _ hL ⟨?_, hst2⟩ hR hpre hK hP hD hS hn hz
        show Value.int (zxf xs _) = _
        rw [zw_clamp]
        simp [zxf, List.getD, hx0]
      · obtain ⟨a, ha, rfl⟩ := hV
        obtain ⟨cA, f, he, ht, hf⟩ := zRep_int hR hp htag ha
        obtain ⟨t0, ht0⟩ := zty_mem ht
        obtain ⟨x1, e1, e2⟩ := hf _ _ hcj
        cases e1
        have hlt := (List.getElem?_eq_some_iff.mp hcj).1
        refine va_iald hx hb hK hP p' t0 he ht0 (zw_in h0 hlt) hd ?_
        refine hk _ _ _ q _ _ _ _ _ _ _ _ _ hL ⟨?_, hst2⟩ hR hpre hK hP hD hS hn hz
        show Value.int (f _) = _
        rw [zw_clamp, e2]
    next => cases q
  case laload =>
    rcases st with _ | ⟨i | i | i, _ | ⟨a | a | r, st⟩⟩ <;> first | (cases q; done) | skip
    simp only [zS, zal] at q
    split at q
    next v hv =>
      obtain ⟨T1, rfl, hst1⟩ := zSt_i hst
      obtain ⟨V, T2, rfl, hV, hst2⟩ := zSt_r hst1
      obtain ⟨h0, ⟨rfl, hbad, -⟩ | ⟨p', c', rfl, hp, htag, hcj⟩⟩ := zar_some hv
      · exact absurd hbad (by decide)
      · obtain ⟨a, ha, rfl⟩ := hV
        obtain ⟨cA, f, he, ht, hf⟩ := zRep_long hR hp htag ha
        obtain ⟨t0, ht0⟩ := zty_mem ht
        obtain ⟨x1, e1, e2⟩ := hf _ _ hcj
        cases e1
        have hlt := (List.getElem?_eq_some_iff.mp hcj).1
        refine va_lald hx hb hK hP p' t0 he ht0 (zw_in h0 hlt) hd ?_
        refine hk _ _ _ q _ _ _ _ _ _ _ _ _ hL ⟨?_, hst2⟩ hR hpre hK hP hD hS hn hz
        show Value.long (f _) = _
        rw [zw_clamp, e2]
    next => cases q
  case aaload =>
    obtain ⟨ci, rfl⟩ := ok
    rcases st with _ | ⟨i | i | i, _ | ⟨a | a | r, st⟩⟩ <;> first | (cases q; done) | skip
    simp only [zS, zaa] at q
    split at q
    next v hv =>
      obtain ⟨T1, rfl, hst1⟩ := zSt_i hst
      obtain ⟨V, T2, rfl, hV, hst2⟩ := zSt_r hst1
      obtain ⟨h0, ⟨rfl, hbad, -⟩ | ⟨p', c', rfl, hp, htag, hcj⟩⟩ := zar_some hv
      · omega
      · obtain ⟨a, ha, rfl⟩ := hV
        obtain ⟨cA, f, r, he, hr2, ht, hf⟩ := zRep_ref hR hp (by omega) ha
        obtain ⟨t0, ht0⟩ := zty_mem ht
        obtain ⟨x1, e1, e2⟩ := hf _ _ hcj
        cases e1
        have hlt := (List.getElem?_eq_some_iff.mp hcj).1
        refine va_aldq hx hb hK hP p' t0 he ht0 (zw_in h0 hlt) hd ?_
        refine hk _ _ _ q _ _ _ _ _ _ _ _ _ hL ⟨?_, hst2⟩ hR hpre hK hP hD hS hn hz
        rw [zw_clamp]
        exact e2
    next => cases q
  case iastore =>
    rcases st with _ | ⟨v | v | v, _ | ⟨i | i | i, _ | ⟨a | a | r, st⟩⟩⟩ <;> first | (cases q; done) | skip
    obtain ⟨p', c', rfl, hp, htag, h0, hlt, q⟩ := zst_some q
    obtain ⟨T1, rfl, hst1⟩ := zSt_i hst
    obtain ⟨T2, rfl, hst2⟩ := zSt_i hst1
    obtain ⟨V, T3, rfl, hV, hst3⟩ := zSt_r hst2
    obtain ⟨a, ha, rfl⟩ := hV
    obtain ⟨cA, f, he, ht, hf⟩ := zRep_int hR hp htag ha
    obtain ⟨t0, ht0⟩ := zty_mem ht
    refine va_iast hx hb hK hP hD hS p' t0 he ht0 (zw_in h0 hlt) hd (fun H1 locs1 hP1 hD1 hS1 => ?_)
    refine hk _ _ _ q _ _ _ _ _ _ _ _ _ hL hst3 (zRep_set hR ha (Or.inr (Or.inl ⟨htag, cA, _, by rw [List.length_set], ht, fun j w hw => ?_⟩))) hpre hK hP1 hD1 hS1 (by rw [List.length_set]; exact hn) (by rw [zsz_set h p' c' _ hp (by simp)]; exact hz)
    rw [zw_clamp]
    by_cases hj : j = (zw i).toNat
    · subst hj
      rw [List.getElem?_set_self hlt] at hw
      cases hw
      exact ⟨v, rfl, pk_us⟩
    · rw [List.getElem?_set_ne (Ne.symm hj)] at hw
      obtain ⟨x1, e1, e2⟩ := hf j w hw
      exact ⟨x1, e1, by rw [pk_un hj]; exact e2⟩
  case lastore =>
    rcases st with _ | ⟨v | v | v, _ | ⟨i | i | i, _ | ⟨a | a | r, st⟩⟩⟩ <;> first | (cases q; done) | skip
    obtain ⟨p', c', rfl, hp, htag, h0, hlt, q⟩ := zst_some q
    obtain ⟨T1, rfl, hst1⟩ := zSt_l hst
    obtain ⟨T2, rfl, hst2⟩ := zSt_i hst1
    obtain ⟨V, T3, rfl, hV, hst3⟩ := zSt_r hst2
    obtain ⟨a, ha, rfl⟩ := hV
    obtain ⟨cA, f, he, ht, hf⟩ := zRep_long hR hp htag ha
    obtain ⟨t0, ht0⟩ := zty_mem ht
    refine va_last hx hb hK hP hD hS p' t0 he ht0 (zw_in h0 hlt) hd (fun H1 locs1 hP1 hD1 hS1 => ?_)
    refine hk _ _ _ q _ _ _ _ _ _ _ _ _ hL hst3 (zRep_set hR ha (Or.inr (Or.inr (Or.inl ⟨htag, cA, _, by rw [List.length_set], ht, fun j w hw => ?_⟩)))) hpre hK hP1 hD1 hS1 (by rw [List.length_set]; exact hn) (by rw [zsz_set h p' c' _ hp (by simp)]; exact hz)
    rw [zw_clamp]
    by_cases hj : j = (zw i).toNat
    · subst hj
      rw [List.getElem?_set_self hlt] at hw
      cases hw
      exact ⟨v, rfl, pk_uLs⟩
    · rw [List.getElem?_set_ne (Ne.symm hj)] at hw
      obtain ⟨x1, e1, e2⟩ := hf j w hw
      exact ⟨x1, e1, by rw [pk_uLn hj]; exact e2⟩
  case aastore =>
    obtain ⟨ci, rfl⟩ := ok
    rcases st with _ | ⟨v | v | (_ | _ | v), _ | ⟨i | i | i, _ | ⟨a | a | r, st⟩⟩⟩ <;> first | (cases q; done) | skip
    simp only [zS] at q
    cases hv0 : h[v]? with
    | none => rw [hv0] at q; cases q
    | some cv0 =>
    rw [hv0] at q
    simp only at q
    split at q
    next hci =>
      obtain ⟨p', c', rfl, hp, htag, h0, hlt, q⟩ := zst_some q
      obtain ⟨V, T1, rfl, hV0, hst1⟩ := zSt_r hst
      obtain ⟨T2, rfl, hst2⟩ := zSt_i hst1
      obtain ⟨V, T3, rfl, hV, hst3⟩ := zSt_r hst2
      obtain ⟨a, ha, rfl⟩ := hV
      obtain ⟨av, hav, rfl⟩ := hV0
      obtain ⟨cA, f, r, he, hr2, ht, hf⟩ := zRep_ref hR hp (by omega) ha
      obtain ⟨t0, ht0⟩ := zty_mem ht
      rw [htag, show 102 + ci - 102 = ci by omega] at hr2
      obtain ⟨fs, hve, hfs⟩ := zRep_obj hR hv0 (by rw [hci]; exact (hcl ci r.1 r.2.1 r.2.2 hr2).2.2.2.2.2) hav
      rw [hci] at hve
      refine va_astq hx hb hK hP hD hS p' t0 v ci he ht0 hve hr2 (zw_in h0 hlt) hd (fun H1 locs1 hP1 hD1 hS1 => ?_)
      refine hk _ _ _ q _ _ _ _ _ _ _ _ _ hL hst3 (zRep_set hR ha (Or.inr (Or.inr (Or.inr ⟨by show 102 ≤ c'.1; omega, cA, _, r, by rw [List.length_set], by show cl[c'.1 - 102]? = _; rw [htag, show 102 + ci - 102 = ci by omega]; exact hr2, ht, fun j w hw => ?_⟩)))) hpre hK hP1 hD1 hS1 (by rw [List.length_set]; exact hn) (by rw [zsz_set h p' c' _ hp (by simp)]; exact hz)
      rw [zw_clamp]
      by_cases hj : j = (zw i).toNat
      · subst hj
        rw [List.getElem?_set_self hlt] at hw
        cases hw
        exact ⟨some (v + 1), rfl, av, hav, by simp [va_up, va_rf]⟩
      · rw [List.getElem?_set_ne (Ne.symm hj)] at hw
        obtain ⟨x1, e1, e2⟩ := hf j w hw
        exact ⟨x1, e1, by rw [show va_up f (zw i).toNat (some av) j = f j by simp [va_up, hj]]; exact e2⟩
    next => cases q
  case arraylength =>
    rcases st with _ | ⟨a | a | r, st⟩ <;> first | (cases q; done) | skip
    obtain ⟨V, T, rfl, hV, hst1⟩ := zSt_r hst
    have q : zln xs h r (fun v => k L (.inl v :: st) h) = some res := q
    rcases r with _ | _ | p'
    · cases q
    · obtain ⟨a, ha, rfl⟩ := hV
      have hab : a = b := Option.some.inj (ha.symm.trans (hpre _ _ hb0))
      subst hab
      refine va_slen hx hb hX hbl hbA hS hd ?_
      exact hk _ _ _ q _ _ _ _ _ _ _ _ _ hL ⟨by show _ = _; rw [zofNat], hst1⟩ hR hpre hK hP hD hS hn hz
    · unfold zln at q
      dsimp only at q
      cases hp : h[p']? with
      | none => rw [hp] at q; cases q
      | some c' =>
      rw [hp] at q
      dsimp only at q
      split at q
      next htag =>
        obtain ⟨a, ha, rfl⟩ := hV
        obtain ⟨cA, x, ty, he, ht, hlen⟩ := zRep_arr hR hp htag ha
        obtain ⟨t0, ht0⟩ := zty_mem ht
        refine va_alen hx hb hK hP p' t0 he ht0 (v := Int32.ofInt c'.2.length) (by rw [hlen, zofNat]) hd ?_
        exact hk _ _ _ q _ _ _ _ _ _ _ _ _ hL ⟨rfl, hst1⟩ hR hpre hK hP hD hS hn hz
      next => cases q
  case new i =>
    obtain ⟨ci, ks, rfl, C, T, N, hc, hks, hlink, hdef⟩ := ok
    obtain ⟨hcw, ⟨ty0, hty0⟩, hnm, hinst, hini, hlt⟩ := hcl ci _ _ _ hc
    have q : k L (.inr (.inr (some (h.length + 1))) :: st) (h ++ [(ci, ks.map fun t => match t with | 0 => .inl 0 | 1 => .inr (.inl 0) | _ => .inr (.inr none))]) = some res := q
    obtain ⟨r1, r2⟩ := hr _ _ _ q
    rw [List.length_append] at r1
    rw [zsz_app] at r2
    simp only [List.length_singleton, zsz, List.length_map] at r1 r2
    have hfs : ∀ j, j < N → defaultValue (ty0 j) = vp_V (ks.map zdfv) j := by
      intro j hj
      obtain ⟨kd, hkd⟩ : ∃ kd, ks[j]? = some kd := ⟨_, List.getElem?_eq_getElem (by omega)⟩
      obtain ⟨ty, h1, h2⟩ := hdef j kd hkd
      have h3 : ty0 j = ty := Option.some.inj ((hty0 j hj).symm.trans h1)
      rw [h3]
      have h4 : vp_V (ks.map zdfv) j = zdfv kd := by simp [vp_V, List.getD, hkd]
      rw [h4]
      rcases h2 with ⟨rfl, rfl | rfl⟩ | ⟨rfl, rfl⟩ | ⟨rfl, ⟨n, rfl⟩ | ⟨t, rfl⟩⟩ <;> rfl
    refine va_new hx hb hts hcw ty0 hty0 hown (hts _ hlink) (hts _ hinst) (hts _ hini) hK hP hD hS hA hc hfs (by omega) (by omega) hd (fun qa H1 hP1 hD1 hS1 => ?_)
    refine hk _ _ _ q _ _ _ _ _ _ _ _ _ (zLo_pre (zpre_app _ _) hL) ⟨⟨qa, by rw [← hR.2.1, List.getElem?_append_right (by omega)]; simp, rfl⟩, zSt_pre (zpre_app _ _) hst⟩ (zRep_app hR (fun _ z => z) (Or.inl ⟨hlt, _, rfl, ?_⟩)) (zpre_tr hpre (zpre_app _ _)) hK hP1 hD1 hS1 (by rw [List.length_append]; simp; omega) (by rw [zsz_app]; simp only [zsz, List.length_map]; omega)
    exact zdfv_ok ads ks
  case newarray t =>
    have main : ∀ (n : Int) (st' : List zV) (ty : FieldType) (tag : Nat) (v0 : zV) (a0 : Nat → vp_A), (∀ N', (a0 N').1 = N') → st = .inl n :: st' → newarray.typeOf t = ty → Cond.arrayClass ty ∈ Ts → componentBytes ty ≤ 8 → (∀ (N' : Nat) (cA : ClassId), vp_cell cA (a0 N') = arrV cA N' (fun _ => defaultValue ty)) → (∀ (ads : List Nat) (N' : Nat) (cA : ClassId) (tys : List (ClassId × FieldType)), zCe cl ads (tys ++ [(cA, ty)]) (tag, List.replicate N' v0) (.inl (cA, a0 N'))) → 0 ≤ zw n ∧ zw n ≤ 1000000 → k L (.inr (.inr (some (h.length + 1))) :: st') (h ++ [(tag, List.replicate (zw n).toNat v0)]) = some res → W p l e R s m args below meth c H locs cells slots Q (F0 m pc ls sv) := by
      intro n st' ty tag v0 a0 ha1 hst0 hty harr hcb ha0 hce hn0 q1
      subst hst0
      obtain ⟨T, rfl, hst1⟩ := zSt_i hst
      obtain ⟨r1, r2⟩ := hr _ _ _ q1
      rw [List.length_append] at r1
      rw [zsz_app] at r2
      simp only [List.length_singleton, zsz, List.length_replicate] at r1 r2
      refine va_newa hx hb (by rw [hty]; exact hts _ harr) hty hK hP hD hS hA (ha0 (zw n).toNat) (fun z => by have := (zw_lt0 n).mp z; omega) (zw_clamp n) ?_ (by omega) (by omega) hd (fun qa cA H1 hK1 hP1 hD1 hS1 => ?_)
      · have : (zw n).toNat * componentBytes ty ≤ 1000000 * 8 := Nat.mul_le_mul (by omega) hcb
        omega
      · exact hk _ _ _ q1 _ _ _ _ _ _ _ _ _ (zLo_pre (zpre_app _ _) hL) ⟨⟨qa, by rw [← hR.2.1, List.getElem?_append_right (by omega)]; simp, rfl⟩, zSt_pre (zpre_app _ _) hst1⟩ (zRep_app hR (fun _ z => List.mem_append_left _ z) (hce _ _ _ _)) (zpre_tr hpre (zpre_app _ _)) hK1 hP1 hD1 hS1 (by rw [List.length_append]; simp; omega) (by rw [zsz_app]; simp only [zsz, List.length_replicate]; omega)
    rcases ok with ⟨rfl, rfl, harr⟩ | ⟨rfl, rfl, harr⟩ <;> rcases st with _ | ⟨n | n | n, st⟩ <;> first | (cases q; done) | skip
    · simp only [zS] at q
      split at q
      next hn0 => exact main n st .int 100 (.inl 0) (fun N' => (N', .inl (fun _ => 0))) (fun _ => rfl) rfl rfl harr (by decide) (fun _ _ => rfl) (fun ads N' cA tys => Or.inr (Or.inl ⟨rfl, cA, fun _ => 0, by rw [List.length_replicate], by simp, fun j v hv => ⟨0, by simp [List.getElem?_replicate] at hv; exact hv.2.symm, rfl⟩⟩)) hn0 q
      next => cases q
    · simp only [zS] at q
      split at q
      next hn0 => exact main n st .long 101 (.inr (.inl 0)) (fun N' => (N', .inr (.inl (fun _ => 0)))) (fun _ => rfl) rfl rfl harr (by decide) (fun _ _ => rfl) (fun ads N' cA tys => Or.inr (Or.inr (Or.inl ⟨rfl, cA, fun _ => 0, by rw [List.length_replicate], by simp, fun j v hv => ⟨0, by simp [List.getElem?_replicate] at hv; exact hv.2.symm, rfl⟩⟩))) hn0 q
      next => cases q
  case anewarray i =>
    obtain ⟨ci, C, T, N, rfl, hc, hlink, hov⟩ := ok
    rcases st with _ | ⟨n | n | n, st⟩ <;> first | (cases q; done) | skip
    simp only [zS] at q
    split at q
    next hn0 =>
      obtain ⟨T1, rfl, hst1⟩ := zSt_i hst
      obtain ⟨r1, r2⟩ := hr _ _ _ q
      rw [List.length_append] at r1
      rw [zsz_app] at r2
      simp only [List.length_singleton, zsz, List.length_replicate] at r1 r2
      refine va_newq hx hb hown (hts _ hlink) (va_AO.of (hts _ hov)) hK hP hD hS hA (fun z => by have := (zw_lt0 n).mp z; omega) (zw_clamp n) (by omega) (by omega) (by omega) hd (fun qa cA H1 hK1 hP1 hD1 hS1 => ?_)
      refine hk _ _ _ q _ _ _ _ _ _ _ _ _ (zLo_pre (zpre_app _ _) hL) ⟨⟨qa, by rw [← hR.2.1, List.getElem?_append_right (by omega)]; simp, rfl⟩, zSt_pre (zpre_app _ _) hst1⟩ (zRep_app hR (fun _ z => List.mem_append_left _ z) (Or.inr (Or.inr (Or.inr ⟨by show 102 ≤ 102 + ci; omega, cA, fun _ => none, (C, T, N), by rw [List.length_replicate], by show cl[102 + ci - 102]? = _; rw [show 102 + ci - 102 = ci by omega]; exact hc, by simp, fun j v hv => ⟨none, by simp [List.getElem?_replicate] at hv; exact hv.2.symm, rfl⟩⟩)))) (zpre_tr hpre (zpre_app _ _)) hK1 hP1 hD1 hS1 (by rw [List.length_append]; simp; omega) (by rw [zsz_app]; simp only [zsz, List.length_replicate]; omega)
    next => cases q

  all_goals first
    | (cases q; done)
    | (exfalso; cases q; done)
end ZSIM
end
section
/-! ===== a whole reading is a run of the machine ===== -/
abbrev zM : Type := MethodName × ByteArray × Nat × Option FieldType × Nat × Nat
/-- words that a contract hands on beside the good ones: links of nest mates, arrays over a class -/
def zbad (w : Cond) : Prop := (∃ a i x h, w = .methodLinkNest a i x h) ∨ ∃ C, w = .arrayOver (.object C)
theorem zbad_warm {w : Cond} (h : zbad w) {s U : State} (hW : s.WarmedH U.vm) (hZ : va_Nw w s) : va_Nw w U := by
  rcases h with ⟨a, i, x, h, rfl⟩ | ⟨C, rfl⟩
  · exact va_Nw.warmM hW hZ
  · exact va_AO.moved hW.alike hZ
theorem zbad_same {w : Cond} (h : zbad w) {u U : State} (hvm : u.vm = U.vm) (hZ : va_Nw w u) : va_Nw w U := by
  rcases h with ⟨a, i, x, h, rfl⟩ | ⟨C, rfl⟩
  · exact va_Nw.same rfl hvm hZ
  · exact va_AO.moved (by rw [hvm]; exact Vm.Alike.refl _) hZ
theorem zbad_of {w : Cond} (h : zbad w) {args : Array Value} {s : State} (hZ : w.before args s = true) : va_Nw w s := by
  rcases h with ⟨a, i, x, h, rfl⟩ | ⟨C, rfl⟩
  · exact va_Nw.of rfl hZ
  · exact va_AO.of hZ
theorem zbad_use {w : Cond} (h : zbad w) {args : Array Value} {s : State} (hZ : va_Nw w s) : w.before args s = true := by
  rcases h with ⟨a, i, x, h, rfl⟩ | ⟨C, rfl⟩
  · exact va_Nw.use rfl hZ
  · exact va_AO.use hZ
def zTk (Ts : List Cond) : Prop := ∀ w ∈ Ts, goodWord w = true ∨ zbad w
/-- what is returned -/
def zRet (ads : List Nat) : Option zV → Option Value → Prop
  | none, rv => rv = none
  | some v, rv => ∃ V, rv = some V ∧ zcR ads v V
def zRI (I : Instr) (rt : Option FieldType) (rv : Option Value) : Prop :=
  (I = .ireturn ∧ ∃ v, rv = some (.int v) ∧ (rt = some .int ∨ (rt = some .boolean ∧ (v = 0 ∨ v = 1)))) ∨
  (I = .lreturn ∧ rt = some .long ∧ ∃ v, rv = some (.long v)) ∨
  (I = .areturn ∧ ∃ V, rv = some V ∧ (V = .null ∨ ∃ a, V = .ref a) ∧ ∃ t, rt = some t ∧ ((∃ n, t = .object n) ∨ ∃ t2, t = .array t2)) ∨
  (I = .return_ ∧ rt = none ∧ rv = none)
/-- what the tables say of a call -/
def zCal (mt : Nat → Option zM) (Ts : List Cond) (fr lo : Nat) (q n mx : Nat) (y : MethodName) (rt : Option FieldType) : Prop := ∃ by' f2 l2, q ≠ 0 ∧ mt q = some (y, by', mx, rt, f2, l2) ∧ f2 + 1 ≤ fr ∧ 8 + (mx + 11) + l2 ≤ lo ∧ (parseMethodDescriptor y.desc).map (fun d => d.parameters.length) = some n
def zIOK (mt : Nat → Option zM) (cl : List vw_C) (Ts : List Cond) (own : String) (ctor : Bool) (nL : Nat) (rt : Option FieldType) (fr lo : Nat) (cc : ByteArray) (pc : Nat) (I : Instr) (x : List Nat) (c : Int) : Prop := match I with
  | .nop => ∃ mm, x = pc :: mm
  | .goto off => decode cc pc = .ok (.goto off, 3) ∧ ∃ t mm, x = t :: mm ∧ (pc : Int) + off = (t : Int)
  | .ifCond cd off => decode cc pc = .ok (.ifCond cd off, 3) ∧ ∃ t mm, x = t :: mm ∧ (pc : Int) + off = (t : Int)
  | .if_icmp cd off => decode cc pc = .ok (.if_icmp cd off, 3) ∧ ∃ t mm, x = t :: mm ∧ (pc : Int) + off = (t : Int)
  | .ifnull off => decode cc pc = .ok (.ifnull off, 3) ∧ ∃ t mm, x = t :: mm ∧ (pc : Int) + off = (t : Int)
  | .ifnonnull off => decode cc pc = .ok (.ifnonnull off, 3) ∧ ∃ t mm, x = t :: mm ∧ (pc : Int) + off = (t : Int)
  | .tableswitch d lo hi offs => ∃ len, decode cc pc = .ok (.tableswitch d lo hi offs, len) ∧ ∃ n dt rest, x = n :: dt :: rest ∧ (pc : Int) + d = (dt : Int) ∧ ∀ (j t : Nat), (rest.drop n)[j]? = some t → ∃ off, offs[j]? = some off ∧ (pc : Int) + off = (t : Int)
  | .ireturn => decode cc pc = .ok (.ireturn, 1) ∧ ((x = [0] ∧ rt = some .int) ∨ (x = [1] ∧ rt = some .boolean))
  | .lreturn => decode cc pc = .ok (.lreturn, 1) ∧ rt = some .long
  | .areturn => decode cc pc = .ok (.areturn, 1) ∧ ∃ t, rt = some t ∧ ((∃ n, t = .object n) ∨ ∃ t2, t = .array t2)
  | .return_ => decode cc pc = .ok (.return_, 1) ∧ rt = none
  | .invokevirtual i => decode cc pc = .ok (.invokevirtual i, 3) ∧ ∃ q n t mx ci y r2 T N, x = [q, n + 1, t, mx, ci] ∧ zCal mt Ts fr lo q n mx y r2 ∧ cl[ci]? = some (y.cls, T, N) ∧ Cond.methodLink own i y ∈ Ts ∧ Cond.instanceMethod y ∈ Ts ∧ Cond.selects y.cls y y ∈ Ts
  | .invokestatic i => decode cc pc = .ok (.invokestatic i, 3) ∧ ∃ q n t mx y r2, x = [q, n, t, mx] ∧ zCal mt Ts fr lo q n mx y r2 ∧ (Cond.methodLink own i y ∈ Ts ∨ ∃ host, Cond.methodLinkNest own i y host ∈ Ts) ∧ Cond.static y ∈ Ts
  | .invokespecial i => decode cc pc = .ok (.invokespecial i, 3) ∧ ((x = [] ∧ Cond.methodLink own i Lib.objectInit ∈ Ts ∧ Cond.instanceMethod Lib.objectInit ∈ Ts ∧ Cond.code Lib.objectInit ⟨#[0xb1]⟩ 1 none ∈ Ts ∧ 1 ≤ fr ∧ 20 ≤ lo) ∨ (∃ q n t mx ci y T N, x = [q, n + 1, t, mx, ci] ∧ zCal mt Ts fr lo q n mx y none ∧ cl[ci]? = some (y.cls, T, N) ∧ (Cond.methodLink own i y ∈ Ts ∨ ∃ host, Cond.methodLinkNest own i y host ∈ Ts) ∧ Cond.instanceMethod y ∈ Ts ∧ y.name = "<init>"))
  | I => zOK cl Ts own ctor nL cc pc I x c
def zBK (mt : Nat → Option zM) (cl : List vw_C) (Ts : List Cond) (own : String) (ctor : Bool) (nL : Nat) (rt : Option FieldType) (fr lo : Nat) (cc : ByteArray) : Nat → List zE → Prop
  | _, [] => True
  | pc, (I, x, c) :: t => zIOK mt cl Ts own ctor nL rt fr lo cc pc I x c ∧ zBK mt cl Ts own ctor nL rt fr lo cc (pc + zlen I) t
def zProg (mt : Nat → Option zM) (B : Nat → Nat → Option (List zE)) (cl : List vw_C) (Ts : List Cond) : Prop := zTk Ts ∧ zCl cl Ts ∧ ∀ (M : Nat) (y : MethodName) (by' : ByteArray) (mL : Nat) (rt : Option FieldType) (fr lo : Nat), mt M = some (y, by', mL, rt, fr, lo) → (y.cls ≠ "java/lang/invoke/MethodHandle" ∧ y.cls ≠ "java/lang/invoke/VarHandle") ∧ plainName y.cls = true ∧ (M ≠ 0 → Cond.code y by' mL rt ∈ Ts ∧ Cond.initialized y.cls ∈ Ts) ∧ ∀ (pc : Nat) (b : List zE), B M pc = some b → zBK mt cl Ts y.cls (y.name == "<init>") mL rt fr lo by' pc b
/-- a method's contract, out of a reading -/
def zPc (Ts : List Cond) (cl : List vw_C) (D : va_G) (xs : List Int) (b : Nat) (tys : List (ClassId × FieldType)) (ws : va_W) (sz : Nat) (avs : List Value) : Array Value → State → Prop := va_Pc avs (fun U => U.heap.size = sz ∧ va_P D cl ws U.heap ∧ va_K D cl tys U ∧ va_D (fun _ => True) ws ∧ va_X b xs.length (zxf xs) U U.heap ∧ b < sz ∧ ¬ va_A ws sz b ∧ ∀ w ∈ Ts, zbad w → va_Nw w U)
def zQc (cl : List vw_C) (D : va_G) (ads : List Nat) (ws : va_W) (sz : Nat) (r : zR) : Array Value → State → Outcome → State → Prop := fun _ st oc t =>
  (∃ rv ads' tys' ws', oc = .returned rv ∧ zRet ads' r.1 rv ∧ zRep cl ads' tys' ws' r.2 ∧ zpre ads ads' ∧ va_P D cl ws' t.heap ∧ va_K D cl tys' t ∧ va_D (va_A ws sz) ws') ∧ va_F (va_A ws sz) st t
def zMet (l : Launch) (cl : List vw_C) (Ts : List Cond) (xs : List Int) (y : MethodName) (by' : ByteArray) (mL : Nat) (rt : Option FieldType) (fr lo : Nat) (vs : List zV) (h : zH) (r : zR) : Prop :=
  ∀ (D : va_G) (ads : List Nat) (b : Nat) (tys : List (ClassId × FieldType)) (ws : va_W) (sz : Nat) (avs : List Value), ads[0]? = some b → zRep cl ads tys ws h → zSt ads vs avs → (zargs vs).length ≤ mL →
    Met l y (Cond.code y by' mL rt :: Ts.filter goodWord) { frames := fr, cells := r.2.length - h.length, slots := zsz r.2 - zsz h, locals := lo } (zPc Ts cl D xs b tys ws sz avs) (zQc cl D ads ws sz r) (r.2.length - h.length) (zsz r.2 - zsz h) (va_A ws sz)
theorem zPc_blind {Ts : List Cond} {cl : List vw_C} {D : va_G} {xs : List Int} {b : Nat} {tys : List (ClassId × FieldType)} {ws : va_W} {sz : Nat} {avs : List Value} : FrameBlind (zPc Ts cl D xs b tys ws sz avs) := by
  rintro a U g mk ⟨h1, h2, h3, h4, h5, h6, h7, h8, h9⟩
  exact ⟨h1, h2, h3, va_K.moved (u := U) (U := U.calling g mk a) (Vm.Alike.refl U.vm) h4, h5, va_X.moved (u := U) (U := U.calling g mk a) (Vm.Alike.refl U.vm) h6, h7, h8, fun w hw hb => zbad_same (u := U) (U := U.calling g mk a) hb rfl (h9 w hw hb)⟩
section ZRUN
variable {p : Program} {l : Launch} {e : Env} {R : Room} {s : State} {m : MethodId} {args : Array Value} {below : List Frame} {meth : Method} {c : Code} {Q : State → Prop}
variable {cc : ByteArray} {nL : Nat} {own : String} {D : va_G} {cl : List vw_C} {A : Nat → Prop} {xs : List Int} {ads0 : List Nat} {n0 z0 : Nat} {Ts : List Cond} {ctor : Bool} {rt0 : Option FieldType}
theorem zAfter {H : Heap} {locs : List Loc} {cells slots mc ms : Nat} {pc : Nat} {ls : Array Slot} {sv rest : List Value} {ads : List Nat} {ws : va_W} {r : zR} {avs : Array Value}
    (hr : va_Run p l e R s m args below meth c H locs cells slots mc ms (F0 m pc ls sv) rest (zQc cl D ads ws H.size r avs) (va_A ws H.size)) (hA : ∀ q, s.heap.size ≤ q → A q) (hS : va_S A s.heap H locs) (hD : va_D A ws)
    (kk : ∀ (rv : Option Value) (ads' : List Nat) (tys' : List (ClassId × FieldType)) (ws' : va_W) (H1 : Heap) (locs1 : List Loc), zRet ads' r.1 rv → zRep cl ads' tys' ws' r.2 → zpre ads ads' → va_K D cl tys' s → va_P D cl ws' H1 → va_D A ws' → va_S A s.heap H1 locs1 → W p l e R s m args below meth c H1 locs1 (cells + mc) (slots + ms) Q (F0 m (pc + 3) ls (rv.toList ++ rest))) : W p l e R s m args below meth c H locs cells slots Q (F0 m pc ls sv) := by
  intro T hT X
  obtain ⟨v, st₀, t, T', L, h0, X', hL, e1, e2, ⟨⟨rv, ads', tys', ws', hv, hrv, hR, hp, hP, hK, hD1⟩, hz, hk⟩, st⟩ := hr T hT X
  cases hv
  rw [h0] at hz hk
  have hf : ∀ q, va_A ws H.size q → A q := fun q hq => by
    rcases hq with ⟨k, ee, hq⟩ | hq
    · exact hD.2 k _ hq
    · exact hA q (Nat.le_trans hS.1 hq)
  obtain ⟨t2, a1, b1⟩ := kk v ads' tys' ws' T'.heap (locs ++ L) hrv hR hp (hK.moved (by rw [← e2]; exact X'.warmed.alike.symm)) (by rw [e1]; exact hP) (hD1.weaken (fun k q _ h => hf q.1 h))
    ⟨Nat.le_trans hS.1 (by rw [e1]; exact hz), fun q h1 h2 => by rw [e1, hk q (Nat.lt_of_lt_of_le h1 hS.1) (fun z => h2 (hf q z))]; exact hS.2.1 q h1 h2, fun q hq => by
      rcases List.mem_append.mp hq with h | h
      · exact hS.2.2 q h
      · exact hf _ (hL q h)⟩ T' rfl X'
  exact ⟨t2, st t2 a1, b1⟩
/-- what comes behind a call -/
theorem zY_sim {pc : Nat} {t : Nat} {o : Option zR} {L : zL} {st : List zV} {k : zL → List zV → zH → Option zR} {res : zR}
    (hk : ∀ L' st' h', k L' st' h' = some res → zSim p l e R s m args below meth c Q nL D cl A ads0 n0 z0 (pc + 3) L' st' h') (q : zY t o L st k = some res) :
    ∃ r1, o = some r1 ∧ (∃ st', k L st' r1.2 = some res) ∧ ∀ (ls : Array Slot) (rest : List Value) (rv : Option Value) (H : Heap) (locs : List Loc) (cells slots : Nat) (ads : List Nat) (tys : List (ClassId × FieldType)) (ws : va_W), zRet ads r1.1 rv → zLo ads nL L ls → zSt ads st rest → zRep cl ads tys ws r1.2 → zpre ads0 ads → va_K D cl tys s → va_P D cl ws H → va_D A ws → va_S A s.heap H locs → cells + n0 = r1.2.length → slots + z0 = zsz r1.2 → W p l e R s m args below meth c H locs cells slots Q (F0 m (pc + 3) ls (rv.toList ++ rest)) := by
  cases o with
  | none => rcases t with _ | _ | _ | _ | t <;> cases q
  | some r1 =>
    obtain ⟨v, h1⟩ := r1
    refine ⟨(v, h1), rfl, ?_⟩
    rcases t with _ | _ | _ | _ | t <;> rcases v with _ | v | v | v <;> simp only [zY, zcv, zci, zcl, zcr] at q <;> first
      | (cases q; done)
      | (refine ⟨⟨_, q⟩, fun ls rest rv H locs cells slots ads tys ws hrv hL hst hR hpre hK hP hD hS hn hz => ?_⟩
         cases hrv
         exact hk _ _ _ q _ _ _ _ _ _ _ _ _ hL hst hR hpre hK hP hD hS hn hz)
      | (refine ⟨⟨_, q⟩, fun ls rest rv H locs cells slots ads tys ws hrv hL hst hR hpre hK hP hD hS hn hz => ?_⟩
         obtain ⟨V, rfl, hV⟩ := hrv
         exact hk _ _ _ q _ _ _ _ _ _ _ _ _ hL ⟨hV, hst⟩ hR hpre hK hP hD hS hn hz)
/-- where a method ends -/
def zFin (p : Program) (l : Launch) (e : Env) (R : Room) (s : State) (m : MethodId) (args : Array Value) (below : List Frame) (meth : Method) (c : Code) (Q : State → Prop) (cc : ByteArray) (rt : Option FieldType) (D : va_G) (cl : List vw_C) (A : Nat → Prop) (ads0 : List Nat) (n0 z0 : Nat) (res : zR) : Prop :=
  ∀ (pc : Nat) (I : Instr) (ls : Array Slot) (rv : Option Value) (H : Heap) (locs : List Loc) (cells slots : Nat) (ads : List Nat) (tys : List (ClassId × FieldType)) (ws : va_W), decode cc pc = .ok (I, 1) → zRI I rt rv → zRet ads res.1 rv → zRep cl ads tys ws res.2 → zpre ads0 ads → va_K D cl tys s → va_P D cl ws H → va_D A ws → va_S A s.heap H locs → cells + n0 = res.2.length → slots + z0 = zsz res.2 → W p l e R s m args below meth c H locs cells slots Q (F0 m pc ls rv.toList)
theorem zPre_of {H : Heap} {locs : List Loc} {tys : List (ClassId × FieldType)} {ws : va_W} {b : Nat} {avs : List Value} (hts : ∀ w ∈ Ts, w.before args s = true) (hX : va_X b xs.length (zxf xs) s s.heap) (hbl : b < s.heap.size) (hbA : ¬ A b) (hA : ∀ q, s.heap.size ≤ q → A q) (hK : va_K D cl tys s) (hP : va_P D cl ws H) (hD : va_D A ws) (hS : va_S A s.heap H locs) (U : State) (hU : U.heap = H) (hW : s.WarmedH U.vm) : zPc Ts cl D xs b tys ws H.size avs avs.toArray U := by
  refine ⟨rfl, by rw [hU], by rw [hU]; exact hP, va_K.moved hW.alike hK, hD.weaken (fun _ _ _ _ => trivial), ?_, Nat.lt_of_lt_of_le hbl hS.1, ?_, fun w hw hb => zbad_warm hb hW (zbad_of hb (hts w hw))⟩
  · rw [hU]
    exact va_X.moved hW.alike (hX.kept (hS.2.1 b hbl hbA))
  · rintro (⟨k, ee, hq⟩ | hq)
    · exact hbA (hD.2 k _ hq)
    · exact absurd (Nat.lt_of_lt_of_le hbl hS.1) (by omega)
theorem zck_some {h : zH} {rr : Option Nat} {ci : Nat} {o : Option zR} {res : zR} (q : zck h rr ci o = some res) : ∃ p c, rr = some (p + 1) ∧ h[p]? = some c ∧ c.1 = ci ∧ o = some res := by
  rcases rr with _ | _ | p
  · cases q
  · cases q
  · unfold zck at q
    dsimp only at q
    cases hc : h[p]? with
    | none => rw [hc] at q; cases q
    | some c =>
      rw [hc] at q
      dsimp only at q
      split at q
      next he => exact ⟨p, c, rfl, hc, he, q⟩
      next => cases q
/-- the receiver under a call's arguments -/
theorem zRecv {ads : List Nat} {tys : List (ClassId × FieldType)} {ws : va_W} {st : List zV} {sv : List Value} {h : zH} {n p' : Nat} {c' : Nat × List zV} (hst : zSt ads st sv) (c1 : n + 1 ≤ st.length) (hR : zRep cl ads tys ws h) (e1 : zrcv (st.take (n + 1)).reverse = some (p' + 1)) (e2 : h[p']? = some c') (ht : c'.1 < 100) :
    ∃ a As fs, ads[p' + 1]? = some a ∧ zSt ads (st.take (n + 1)).reverse (.ref a :: As) ∧ zSt ads (st.drop (n + 1)) (sv.drop (n + 1)) ∧ sv = As.reverse ++ .ref a :: sv.drop (n + 1) ∧ As.length = n ∧ ws[p']? = some (a, .inr (c'.1, fs)) := by
  have hst1 : zSt ads (st.take (n + 1)).reverse (sv.take (n + 1)).reverse := zSt_rev (zSt_take (n + 1) hst).1
  have hst2 := (zSt_take (n + 1) hst).2
  have hlen : (sv.take (n + 1)).reverse.length = n + 1 := by rw [List.length_reverse, List.length_take, zSt_len hst]; omega
  have hsv : sv = (sv.take (n + 1)).reverse.reverse ++ sv.drop (n + 1) := by rw [List.reverse_reverse, List.take_append_drop]
  generalize (st.take (n + 1)).reverse = vs at hst1 e1 ⊢
  generalize (sv.take (n + 1)).reverse = avs at hst1 hlen hsv
  rcases vs with _ | ⟨v, vs⟩
  · cases e1
  rcases avs with _ | ⟨V, As⟩
  · exact hst1.elim
  rcases v with v | v | v
  · cases e1
  · cases e1
  · cases e1
    obtain ⟨⟨a, ha, rfl⟩, h2⟩ := hst1
    obtain ⟨fs, he, -⟩ := zRep_obj hR e2 ht ha
    refine ⟨a, As, fs, ha, ⟨⟨a, ha, rfl⟩, h2⟩, hst2, ?_, by simpa using hlen, he⟩
    rw [List.reverse_cons, List.append_assoc] at hsv
    exact hsv
theorem zX_sim {mt : Nat → Option zM} {rec : Nat → Nat → zL → List zV → zH → Option zR} {fr lo : Nat} (hG : zTk Ts) (hMt : ∀ (q : Nat) (y : MethodName) (by' : ByteArray) (mL : Nat) (rt : Option FieldType) (fr lo : Nat), q ≠ 0 → mt q = some (y, by', mL, rt, fr, lo) → (y.cls ≠ "java/lang/invoke/MethodHandle" ∧ y.cls ≠ "java/lang/invoke/VarHandle") ∧ Cond.code y by' mL rt ∈ Ts ∧ Cond.initialized y.cls ∈ Ts)
    (hMet : ∀ (q : Nat) (y : MethodName) (by' : ByteArray) (mL : Nat) (rt : Option FieldType) (fr lo : Nat) (vs : List zV) (h : zH) (r : zR), mt q = some (y, by', mL, rt, fr, lo) → rec q 0 (zargs vs) [] h = some r → zMet l cl Ts xs y by' mL rt fr lo vs h r)
    (hgr : ∀ m pc L st h r, rec m pc L st h = some r → zge h r.2)
    (C0 : zCtx p s m args meth c cc nL own ctor cl A xs ads0 Ts) (hfr : fr ≤ R.frames) (hlo : lo ≤ R.locals) {pc : Nat} {I : Instr} {x : List Nat} {cv : Int} {L : zL} {st : List zV} {h : zH} {k : zL → List zV → zH → Option zR} {res : zR} (ok : zIOK mt cl Ts own ctor nL rt0 fr lo cc pc I x cv)
    (hI : (∃ i, I = .invokevirtual i) ∨ (∃ i, I = .invokestatic i) ∨ ∃ i, I = .invokespecial i ∧ x ≠ [])
    (hk : ∀ L' st' h', k L' st' h' = some res → zSim p l e R s m args below meth c Q nL D cl A ads0 n0 z0 (pc + 3) L' st' h') (hr : ∀ L' st' h', k L' st' h' = some res → h'.length ≤ R.cells + n0 ∧ zsz h' ≤ R.slots + z0)
    (q : zX rec x L st h k = some res) : zSim p l e R s m args below meth c Q nL D cl A ads0 n0 z0 pc L st h := by
  intro ls sv H locs cells slots ads tys ws hL hst hR hpre hK hP hD hS hn hz
  obtain ⟨hx, hb, hml, hts, hown, hA, hcl, hct, b, hb0, hX, hbl, hbA⟩ := C0
  have hb1 := hpre _ _ hb0
  -- the callee's words
  have words : ∀ (y : MethodName) (by' : ByteArray) (mL : Nat) (rt : Option FieldType), Cond.code y by' mL rt ∈ Ts → GoodIn Ts (Cond.code y by' mL rt :: Ts.filter goodWord) := fun y by' mL rt hc w hw => by
    rcases List.mem_cons.mp hw with rfl | hw
    · refine ⟨hc, (hG _ hc).elim good_of_word (fun hb => ?_)⟩
      rcases hb with ⟨a, i, x, h, hb⟩ | ⟨C, hb⟩ <;> cases hb
    · obtain ⟨h1, h2⟩ := List.mem_filter.mp hw
      exact ⟨h1, good_of_word h2⟩
  -- the run of a callee, and what comes behind it
  have go : ∀ (qm n t mx : Nat) (y : MethodName) (rt : Option FieldType) (rest : List Value) (avs : List Value), zSt ads (st.drop n) rest → zSt ads (st.take n).reverse avs → (zargs (st.take n).reverse).length ≤ mx →
      (∀ (by' : ByteArray) (f2 l2 : Nat) (r1 : zR), mt qm = some (y, by', mx, rt, f2, l2) → r1.2.length ≤ R.cells + n0 → zsz r1.2 ≤ R.slots + z0 → zge h r1.2 → zMet l cl Ts xs y by' mx rt f2 l2 (st.take n).reverse h r1 → va_Run p l e R s m args below meth c H locs cells slots (r1.2.length - h.length) (zsz r1.2 - zsz h) (F0 m pc ls sv) rest (zQc cl D ads ws H.size r1 avs.toArray) (va_A ws H.size)) →
      (∃ by' f2 l2, mt qm = some (y, by', mx, rt, f2, l2)) → zY t (rec qm 0 (zargs (st.take n).reverse) [] h) L (st.drop n) k = some res → W p l e R s m args below meth c H locs cells slots Q (F0 m pc ls sv) := by
    intro qm n t mx y rt rest avs hrest havs hlen run ⟨by', f2, l2, hm⟩ qy
    obtain ⟨r1, h1, ⟨st', h2⟩, h3⟩ := zY_sim hk qy
    obtain ⟨g1, g2⟩ := hr _ _ _ h2
    have hge := hgr _ _ _ _ _ _ h1
    have hM := hMet qm y by' mx rt f2 l2 (st.take n).reverse h r1 hm h1
    refine zAfter (run by' f2 l2 r1 hm g1 g2 hge hM) hA hS hD (fun rv ads' tys' ws' H1 locs1 hrv hR1 hp1 hK1 hP1 hD1 hS1 => ?_)
    exact h3 ls rest rv H1 locs1 _ _ ads' tys' ws' hrv (zLo_pre hp1 hL) (zSt_pre hp1 hrest) hR1 (zpre_tr hpre hp1) hK1 hP1 hD1 hS1 (by have := hge.1; omega) (by have := hge.2; omega)
  have cats : ∀ (n : Nat) (rest : List Value), zSt ads (st.drop n) rest → st.length ≤ n + 4 → (rest.map fun v => v.category).sum ≤ 8 := fun n rest h1 h2 => by
    have := zSt_cat h1
    rw [List.length_drop] at this
    omega
  rcases hI with ⟨i, rfl⟩ | ⟨i, rfl⟩ | ⟨i, rfl, hx0⟩
  · obtain ⟨hd, qm, n, t, mx, ci, y, r2, T, N, rfl, ⟨by', f2, l2, hq0, hm, hf1, hl1, hnp⟩, hc, w1, w2, w3⟩ := ok
    obtain ⟨hy, hcode, hini⟩ := hMt qm y by' mx r2 f2 l2 hq0 hm
    simp only [zX] at q
    split at q
    next hcond =>
      obtain ⟨c1, c2, c3⟩ := hcond
      obtain ⟨p', c', e1, e2, e3, q⟩ := zck_some q
      obtain ⟨a, As, fs, ha, hst1, hst2, hsv, hAs, he⟩ := zRecv hst c1 hR e1 e2 (by rw [e3]; exact (hcl ci _ _ _ hc).2.2.2.2.2)
      rw [e3] at he
      refine go qm (n + 1) t mx y r2 (sv.drop (n + 1)) (.ref a :: As) hst2 hst1 c3 (fun by2 f3 l3 r1 hm2 g1 g2 hge hM => ?_) ⟨by', f2, l2, hm⟩ q
      cases hm.symm.trans hm2
      exact va_runV (As := As) (rest := sv.drop (n + 1)) ⟨hx, hb, hml, hown, hts⟩ (hM D ads b tys ws H.size (.ref a :: As) hb1 hR hst1 c3) (C := y.cls)
        ⟨callB_of n hts (words _ _ _ _ hcode) rfl rfl rfl (hts _ hini) (hts _ w1) ⟨hy.1, hy.2, hnp⟩ ⟨by show f2 + 1 ≤ _; omega, by show 8 + (mx + 11) + l2 ≤ _; omega⟩, hts _ w2, hts _ w3⟩
        ⟨zPc_blind, va_recv hK hP hc he, zPre_of hts hX hbl hbA hA hK hP hD hS⟩ rfl hAs hL.1 hsv (lv_room (cats _ _ hst2 c2)) hd ⟨by have := hge.1; omega, by have := hge.2; omega⟩
    next => cases q
  · obtain ⟨hd, qm, n, t, mx, y, r2, rfl, ⟨by', f2, l2, hq0, hm, hf1, hl1, hnp⟩, w1, w2⟩ := ok
    obtain ⟨hy, hcode, hini⟩ := hMt qm y by' mx r2 f2 l2 hq0 hm
    simp only [zX] at q
    split at q
    next hcond =>
      obtain ⟨c1, c2, c3⟩ := hcond
      have hst1 : zSt ads (st.take n).reverse (sv.take n).reverse := zSt_rev (zSt_take n hst).1
      have hst2 := (zSt_take n hst).2
      have hAs : (sv.take n).reverse.length = n := by rw [List.length_reverse, List.length_take, zSt_len hst]; omega
      refine go qm n t mx y r2 (sv.drop n) (sv.take n).reverse hst2 hst1 c3 (fun by2 f3 l3 r1 hm2 g1 g2 hge hM => ?_) ⟨by', f2, l2, hm⟩ q
      cases hm.symm.trans hm2
      have hsv : sv = (sv.take n).reverse.reverse ++ sv.drop n := by rw [List.reverse_reverse, List.take_append_drop]
      rcases w1 with w1 | ⟨host, w1⟩
      · exact va_runS (As := (sv.take n).reverse) (rest := sv.drop n) ⟨hx, hb, hml, hown, hts⟩ (hM D ads b tys ws H.size _ hb1 hR hst1 c3)
          ⟨callB_of n hts (words _ _ _ _ hcode) rfl rfl rfl (hts _ hini) (hts _ w1) ⟨hy.1, hy.2, hnp⟩ ⟨by show f2 + 1 ≤ _; omega, by show 8 + (mx + 11) + l2 ≤ _; omega⟩, hts _ w2⟩
          ⟨zPc_blind, zPre_of hts hX hbl hbA hA hK hP hD hS⟩ rfl hAs hL.1 hsv (lv_room (cats _ _ hst2 c2)) hd ⟨by have := hge.1; omega, by have := hge.2; omega⟩
      · exact va_runSN (As := (sv.take n).reverse) (rest := sv.drop n) ⟨hx, hb, hml, hown, hts⟩ (hM D ads b tys ws H.size _ hb1 hR hst1 c3)
          ⟨va_cnB n hts (words _ _ _ _ hcode) rfl rfl rfl (va_Nw.of rfl (hts _ w1)) (hts _ hini) ⟨hy.1, hy.2, hnp⟩ ⟨by show f2 + 1 ≤ _; omega, by show 8 + (mx + 11) + l2 ≤ _; omega⟩, hts _ w2, trivial⟩
          ⟨zPc_blind, zPre_of hts hX hbl hbA hA hK hP hD hS⟩ rfl hAs hL.1 hsv (lv_room (cats _ _ hst2 c2)) hd ⟨by have := hge.1; omega, by have := hge.2; omega⟩
    next => cases q
  · obtain ⟨hd, ⟨hbad, -⟩ | ⟨qm, n, t, mx, ci, y, T, N, rfl, ⟨by', f2, l2, hq0, hm, hf1, hl1, hnp⟩, hc, w1, w2, w3⟩⟩ := ok
    · exact absurd hbad hx0
    obtain ⟨hy, hcode, hini⟩ := hMt qm y by' mx none f2 l2 hq0 hm
    simp only [zX] at q
    split at q
    next hcond =>
      obtain ⟨c1, c2, c3⟩ := hcond
      obtain ⟨p', c', e1, e2, e3, q⟩ := zck_some q
      obtain ⟨a, As, fs, ha, hst1, hst2, hsv, hAs, he⟩ := zRecv hst c1 hR e1 e2 (by rw [e3]; exact (hcl ci _ _ _ hc).2.2.2.2.2)
      refine go qm (n + 1) t mx y none (sv.drop (n + 1)) (.ref a :: As) hst2 hst1 c3 (fun by2 f3 l3 r1 hm2 g1 g2 hge hM => ?_) ⟨by', f2, l2, hm⟩ q
      cases hm.symm.trans hm2
      rcases w1 with w1 | ⟨host, w1⟩
      · exact va_runI (As := As) (rest := sv.drop (n + 1)) ⟨hx, hb, hml, hown, hts⟩ (hM D ads b tys ws H.size (.ref a :: As) hb1 hR hst1 c3)
          (cwI n hts (words _ _ _ _ hcode) rfl rfl rfl (hts _ hini) (hts _ w1) (hts _ w2) w3 ⟨hy.1, hy.2, hnp⟩ ⟨by show f2 + 1 ≤ _; omega, by show 8 + (mx + 11) + l2 ≤ _; omega⟩)
          ⟨zPc_blind, zPre_of hts hX hbl hbA hA hK hP hD hS⟩ rfl hAs hL.1 hsv (lv_room (cats _ _ hst2 c2)) hd ⟨by have := hge.1; omega, by have := hge.2; omega⟩
      · exact va_runIN (As := As) (rest := sv.drop (n + 1)) ⟨hx, hb, hml, hown, hts⟩ (hM D ads b tys ws H.size (.ref a :: As) hb1 hR hst1 c3)
          ⟨va_cnB n hts (words _ _ _ _ hcode) rfl rfl rfl (va_Nw.of rfl (hts _ w1)) (hts _ hini) ⟨hy.1, hy.2, hnp⟩ ⟨by show f2 + 1 ≤ _; omega, by show 8 + (mx + 11) + l2 ≤ _; omega⟩, w3, hts _ w2⟩
          ⟨zPc_blind, zPre_of hts hX hbl hbA hA hK hP hD hS⟩ rfl hAs hL.1 hsv (lv_room (cats _ _ hst2 c2)) hd ⟨by have := hge.1; omega, by have := hge.2; omega⟩
    next => cases q
theorem zJ_sim {rec : Nat → zL → List zV → zH → Option zR} {res : zR} (hJ : ∀ pc L st h, rec pc L st h = some res → zSim p l e R s m args below meth c Q nL D cl A ads0 n0 z0 pc L st h) {t : Nat} {mm : List Nat} {L : zL} {st : List zV} {h : zH} (q : zJ rec (t :: mm) L st h = some res) : zSim p l e R s m args below meth c Q nL D cl A ads0 n0 z0 t L st h := by
  intro ls sv H locs cells slots ads tys ws hL hst hR hpre hK hP hD hS hn hz
  exact hJ _ _ _ _ q _ _ _ _ _ _ _ _ _ (zLo_keep hL mm) hst hR hpre hK hP hD hS hn hz
theorem zI_sim {mt : Nat → Option zM} {rec : Nat → Nat → zL → List zV → zH → Option zR} {M fr lo : Nat} (hG : zTk Ts) (hMt : ∀ (q : Nat) (y : MethodName) (by' : ByteArray) (mL : Nat) (rt : Option FieldType) (fr lo : Nat), q ≠ 0 → mt q = some (y, by', mL, rt, fr, lo) → (y.cls ≠ "java/lang/invoke/MethodHandle" ∧ y.cls ≠ "java/lang/invoke/VarHandle") ∧ Cond.code y by' mL rt ∈ Ts ∧ Cond.initialized y.cls ∈ Ts)
    (hMet : ∀ (q : Nat) (y : MethodName) (by' : ByteArray) (mL : Nat) (rt : Option FieldType) (fr lo : Nat) (vs : List zV) (h : zH) (r : zR), mt q = some (y, by', mL, rt, fr, lo) → rec q 0 (zargs vs) [] h = some r → zMet l cl Ts xs y by' mL rt fr lo vs h r)
    (hgr : ∀ m pc L st h r, rec m pc L st h = some r → zge h r.2)
    (C0 : zCtx p s m args meth c cc nL own ctor cl A xs ads0 Ts) (hfr : fr ≤ R.frames) (hlo : lo ≤ R.locals) {res : zR} (hJ : ∀ pc L st h, rec M pc L st h = some res → zSim p l e R s m args below meth c Q nL D cl A ads0 n0 z0 pc L st h) (hF : zFin p l e R s m args below meth c Q cc rt0 D cl A ads0 n0 z0 res)
    {pc : Nat} {I : Instr} {x : List Nat} {cv : Int} {L : zL} {st : List zV} {h : zH} {k : zL → List zV → zH → Option zR} (ok : zIOK mt cl Ts own ctor nL rt0 fr lo cc pc I x cv)
    (hk : ∀ L' st' h', k L' st' h' = some res → zSim p l e R s m args below meth c Q nL D cl A ads0 n0 z0 (pc + zlen I) L' st' h') (hr : ∀ L' st' h', k L' st' h' = some res → h'.length ≤ R.cells + n0 ∧ zsz h' ≤ R.slots + z0)
    (q : zI xs rec M I x cv L st h k = some res) : zSim p l e R s m args below meth c Q nL D cl A ads0 n0 z0 pc L st h := by
  obtain ⟨J, hJ0⟩ : ∃ J, J = I := ⟨I, rfl⟩
  cases I
  case nop =>
    obtain ⟨mm, rfl⟩ := ok
    exact zJ_sim hJ q
  case goto off =>
    obtain ⟨hd, t, mm, rfl, ht⟩ := ok
    obtain ⟨hx, hb, -⟩ := C0
    intro ls sv H locs cells slots ads tys ws hL hst hR hpre hK hP hD hS hn hz
    exact lv_goto hx hb hd ht (zJ_sim hJ q _ _ _ _ _ _ _ _ _ hL hst hR hpre hK hP hD hS hn hz)
  case ifCond cnd off =>
    obtain ⟨hd, t, mm, rfl, ht⟩ := ok
    obtain ⟨hx, hb, -⟩ := C0
    intro ls sv H locs cells slots ads tys ws hL hst hR hpre hK hP hD hS hn hz
    cases cnd <;> rcases st with _ | ⟨a | a | a, st⟩ <;> first | (cases q; done) | skip
    all_goals
      obtain ⟨T1, rfl, hst1⟩ := zSt_i hst
      simp only [zI] at q
    · exact lv_if_eq hx hb hd ht (fun z => by rw [if_pos ((zw_eq0 a).mp z)] at q; exact zJ_sim hJ q _ _ _ _ _ _ _ _ _ hL hst1 hR hpre hK hP hD hS hn hz) (fun z => by rw [if_neg (fun z' => z ((zw_eq0 a).mpr z'))] at q; exact hk _ _ _ q _ _ _ _ _ _ _ _ _ hL hst1 hR hpre hK hP hD hS hn hz)
    · exact lv_if_ne hx hb hd ht (fun z => by rw [if_pos (fun z' => z ((zw_eq0 a).mpr z'))] at q; exact zJ_sim hJ q _ _ _ _ _ _ _ _ _ hL hst1 hR hpre hK hP hD hS hn hz) (fun z => by rw [if_neg (fun z' => z' ((zw_eq0 a).mp z))] at q; exact hk _ _ _ q _ _ _ _ _ _ _ _ _ hL hst1 hR hpre hK hP hD hS hn hz)
    · exact lv_if_lt hx hb hd ht (fun z => by rw [if_pos ((zw_lt0 a).mp z)] at q; exact zJ_sim hJ q _ _ _ _ _ _ _ _ _ hL hst1 hR hpre hK hP hD hS hn hz) (fun z => by rw [if_neg (fun z' => z ((zw_lt0 a).mpr z'))] at q; exact hk _ _ _ q _ _ _ _ _ _ _ _ _ hL hst1 hR hpre hK hP hD hS hn hz)
    · exact lv_if_ge hx hb hd ht (fun z => by rw [if_pos ((zw_ge0 a).mp z)] at q; exact zJ_sim hJ q _ _ _ _ _ _ _ _ _ hL hst1 hR hpre hK hP hD hS hn hz) (fun z => by rw [if_neg (fun z' => z ((zw_ge0 a).mpr z'))] at q; exact hk _ _ _ q _ _ _ _ _ _ _ _ _ hL hst1 hR hpre hK hP hD hS hn hz)
    · exact lv_if_gt hx hb hd ht (fun z => by rw [if_pos ((zw_gt0 a).mp z)] at q; exact zJ_sim hJ q _ _ _ _ _ _ _ _ _ hL hst1 hR hpre hK hP hD hS hn hz) (fun z => by rw [if_neg (fun z' => z ((zw_gt0 a).mpr z'))] at q; exact hk _ _ _ q _ _ _ _ _ _ _ _ _ hL hst1 hR hpre hK hP hD hS hn hz)
    · exact lv_if_le hx hb hd ht (fun z => by rw [if_pos ((zw_le0 a).mp z)] at q; exact zJ_sim hJ q _ _ _ _ _ _ _ _ _ hL hst1 hR hpre hK hP hD hS hn hz) (fun z => by rw [if_neg (fun z' => z ((zw_le0 a).mpr z'))] at q; exact hk _ _ _ q _ _ _ _ _ _ _ _ _ hL hst1 hR hpre hK hP hD hS hn hz)
  case if_icmp cnd off =>
    obtain ⟨hd, t, mm, rfl, ht⟩ := ok
    obtain ⟨hx, hb, -⟩ := C0
    intro ls sv H locs cells slots ads tys ws hL hst hR hpre hK hP hD hS hn hz
    cases cnd <;> rcases st with _ | ⟨b | b | b, _ | ⟨a | a | a, st⟩⟩ <;> first | (cases q; done) | skip
    all_goals
      obtain ⟨T1, rfl, hst1⟩ := zSt_i hst
      obtain ⟨T2, rfl, hst2⟩ := zSt_i hst1
      simp only [zI] at q
    · exact lv_icmp_eq hx hb hd ht (fun z => by rw [if_pos ((zw_eq a b).mp z)] at q; exact zJ_sim hJ q _ _ _ _ _ _ _ _ _ hL hst2 hR hpre hK hP hD hS hn hz) (fun z => by rw [if_neg (fun z' => z ((zw_eq a b).mpr z'))] at q; exact hk _ _ _ q _ _ _ _ _ _ _ _ _ hL hst2 hR hpre hK hP hD hS hn hz)
    · exact lv_icmp_ne hx hb hd ht (fun z => by rw [if_pos (fun z' => z ((zw_eq a b).mpr z'))] at q; exact zJ_sim hJ q _ _ _ _ _ _ _ _ _ hL hst2 hR hpre hK hP hD hS hn hz) (fun z => by rw [if_neg (fun z' => z' ((zw_eq a b).mp z))] at q; exact hk _ _ _ q _ _ _ _ _ _ _ _ _ hL hst2 hR hpre hK hP hD hS hn hz)
    · exact lv_icmp_lt hx hb hd ht (fun z => by rw [if_pos ((zw_lt a b).mp z)] at q; exact zJ_sim hJ q _ _ _ _ _ _ _ _ _ hL hst2 hR hpre hK hP hD hS hn hz) (fun z => by rw [if_neg (fun z' => z ((zw_lt a b).mpr z'))] at q; exact hk _ _ _ q _ _ _ _ _ _ _ _ _ hL hst2 hR hpre hK hP hD hS hn hz)
    · exact lv_icmp_ge hx hb hd ht (fun z => by rw [if_pos ((zw_le b a).mp z)] at q; exact zJ_sim hJ q _ _ _ _ _ _ _ _ _ hL hst2 hR hpre hK hP hD hS hn hz) (fun z => by rw [if_neg (fun z' => z ((zw_le b a).mpr z'))] at q; exact hk _ _ _ q _ _ _ _ _ _ _ _ _ hL hst2 hR hpre hK hP hD hS hn hz)
    · exact lv_icmp_gt hx hb hd ht (fun z => by rw [if_pos ((zw_lt b a).mp z)] at q; exact zJ_sim hJ q _ _ _ _ _ _ _ _ _ hL hst2 hR hpre hK hP hD hS hn hz) (fun z => by rw [if_neg (fun z' => z ((zw_lt b a).mpr z'))] at q; exact hk _ _ _ q _ _ _ _ _ _ _ _ _ hL hst2 hR hpre hK hP hD hS hn hz)
    · exact lv_icmp_le hx hb hd ht (fun z => by rw [if_pos ((zw_le a b).mp z)] at q; exact zJ_sim hJ q _ _ _ _ _ _ _ _ _ hL hst2 hR hpre hK hP hD hS hn hz) (fun z => by rw [if_neg (fun z' => z ((zw_le a b).mpr z'))] at q; exact hk _ _ _ q _ _ _ _ _ _ _ _ _ hL hst2 hR hpre hK hP hD hS hn hz)
  case ifnull off =>
    obtain ⟨hd, t, mm, rfl, ht⟩ := ok
    obtain ⟨hx, hb, -⟩ := C0
    intro ls sv H locs cells slots ads tys ws hL hst hR hpre hK hP hD hS hn hz
    rcases st with _ | ⟨a | a | (_ | a), st⟩ <;> first | (cases q; done) | skip
    · obtain ⟨V, T1, rfl, hV, hst1⟩ := zSt_r hst
      cases hV
      exact lv_ifnullN hx hb hd ht (zJ_sim hJ q _ _ _ _ _ _ _ _ _ hL hst1 hR hpre hK hP hD hS hn hz)
    · obtain ⟨V, T1, rfl, hV, hst1⟩ := zSt_r hst
      obtain ⟨a1, -, rfl⟩ := hV
      exact lv_ifnull hx hb hd (hk _ _ _ q _ _ _ _ _ _ _ _ _ hL hst1 hR hpre hK hP hD hS hn hz)
  case ifnonnull off =>
    obtain ⟨hd, t, mm, rfl, ht⟩ := ok
    obtain ⟨hx, hb, -⟩ := C0
    intro ls sv H locs cells slots ads tys ws hL hst hR hpre hK hP hD hS hn hz
    rcases st with _ | ⟨a | a | (_ | a), st⟩ <;> first | (cases q; done) | skip
    · obtain ⟨V, T1, rfl, hV, hst1⟩ := zSt_r hst
      cases hV
      exact lv_ifnonnullN hx hb hd (hk _ _ _ q _ _ _ _ _ _ _ _ _ hL hst1 hR hpre hK hP hD hS hn hz)
    · obtain ⟨V, T1, rfl, hV, hst1⟩ := zSt_r hst
      obtain ⟨a1, -, rfl⟩ := hV
      exact lv_ifnonnull hx hb hd ht (zJ_sim hJ q _ _ _ _ _ _ _ _ _ hL hst1 hR hpre hK hP hD hS hn hz)
  case tableswitch d2 lo2 hi2 offs =>
    obtain ⟨len, hd, n, dt, rest, rfl, hdt, htg⟩ := ok
    obtain ⟨hx, hb, -⟩ := C0
    intro ls sv H locs cells slots ads tys ws hL hst hR hpre hK hP hD hS hn hz
    rcases st with _ | ⟨a | a | a, st⟩ <;> first | (cases q; done) | skip
    obtain ⟨T1, rfl, hst1⟩ := zSt_i hst
    simp only [zI] at q
    split at q
    next hc => exact lv_tableOut hx hb hd (by rw [zw_toInt]; exact hc) hdt (hJ _ _ _ _ q _ _ _ _ _ _ _ _ _ (zLo_keep hL _) hst1 hR hpre hK hP hD hS hn hz)
    next hc =>
      cases htt : (rest.drop n)[(zw a - lo2).toNat]? with
      | none => rw [htt] at q; cases q
      | some t =>
        rw [htt] at q
        obtain ⟨off, ho1, ho2⟩ := htg _ _ htt
        exact lv_tableIn hx hb hd (by rw [zw_toInt]; omega) (by rw [zw_toInt]; omega) (by rw [zw_toInt]; exact ho1) ho2 (hJ _ _ _ _ q _ _ _ _ _ _ _ _ _ (zLo_keep hL _) hst1 hR hpre hK hP hD hS hn hz)
  case ireturn =>
    obtain ⟨hd, ⟨rfl, hrt⟩ | ⟨rfl, hrt⟩⟩ := ok
    · intro ls sv H locs cells slots ads tys ws hL hst hR hpre hK hP hD hS hn hz
      rcases st with _ | ⟨a | a | a, _ | ⟨b, st⟩⟩ <;> first | (cases q; done) | skip
      cases q
      obtain ⟨T1, rfl, hst1⟩ := zSt_i hst
      rcases T1 with _ | ⟨V, T1⟩
      · exact hF pc _ ls (some (.int (Int32.ofInt a))) H locs cells slots ads tys ws hd (Or.inl ⟨rfl, _, rfl, Or.inl hrt⟩) ⟨_, rfl, rfl⟩ hR hpre hK hP hD hS hn hz
      · exact hst1.elim
    · intro ls sv H locs cells slots ads tys ws hL hst hR hpre hK hP hD hS hn hz
      rcases st with _ | ⟨a | a | a, _ | ⟨b, st⟩⟩ <;> first | (cases q; done) | skip
      simp only [zI] at q
      split at q
      next h01 =>
        cases q
        obtain ⟨T1, rfl, hst1⟩ := zSt_i hst
        rcases T1 with _ | ⟨V, T1⟩
        · exact hF pc _ ls (some (.int (Int32.ofInt a))) H locs cells slots ads tys ws hd (Or.inl ⟨rfl, _, rfl, Or.inr ⟨hrt, by rcases h01 with rfl | rfl; exact Or.inl rfl; exact Or.inr rfl⟩⟩) ⟨_, rfl, rfl⟩ hR hpre hK hP hD hS hn hz
        · exact hst1.elim
      next => cases q
  case lreturn =>
    obtain ⟨hd, hrt⟩ := ok
    intro ls sv H locs cells slots ads tys ws hL hst hR hpre hK hP hD hS hn hz
    rcases st with _ | ⟨a | a | a, _ | ⟨b, st⟩⟩ <;> first | (cases q; done) | skip
    cases q
    obtain ⟨T1, rfl, hst1⟩ := zSt_l hst
    rcases T1 with _ | ⟨V, T1⟩
    · exact hF pc _ ls (some (.long (Int64.ofInt a))) H locs cells slots ads tys ws hd (Or.inr (Or.inl ⟨rfl, hrt, _, rfl⟩)) ⟨_, rfl, rfl⟩ hR hpre hK hP hD hS hn hz
    · exact hst1.elim
  case areturn =>
    obtain ⟨hd, t, hrt, hkt⟩ := ok
    intro ls sv H locs cells slots ads tys ws hL hst hR hpre hK hP hD hS hn hz
    rcases st with _ | ⟨a | a | a, _ | ⟨b, st⟩⟩ <;> first | (cases q; done) | skip
    cases q
    obtain ⟨V, T1, rfl, hV, hst1⟩ := zSt_r hst
    rcases T1 with _ | ⟨V2, T1⟩
    · refine hF pc _ ls (some V) H locs cells slots ads tys ws hd (Or.inr (Or.inr (Or.inl ⟨rfl, V, rfl, ?_, t, hrt, hkt⟩))) ⟨_, rfl, hV⟩ hR hpre hK hP hD hS hn hz
      rcases a with _ | a
      · exact Or.inl hV
      · obtain ⟨a1, -, h2⟩ := hV
        exact Or.inr ⟨a1, h2⟩
    · exact hst1.elim
  case return_ =>
    obtain ⟨hd, hrt⟩ := ok
    intro ls sv H locs cells slots ads tys ws hL hst hR hpre hK hP hD hS hn hz
    rcases st with _ | ⟨a, st⟩ <;> first | (cases q; done) | skip
    cases q
    rcases sv with _ | ⟨V, sv⟩
    · exact hF pc _ ls none H locs cells slots ads tys ws hd (Or.inr (Or.inr (Or.inr ⟨rfl, hrt, rfl⟩))) rfl hR hpre hK hP hD hS hn hz
    · exact hst.elim
  case invokevirtual i => exact zX_sim hG hMt hMet hgr C0 hfr hlo ok (Or.inl ⟨i, rfl⟩) hk hr q
  case invokestatic i => exact zX_sim hG hMt hMet hgr C0 hfr hlo ok (Or.inr (Or.inl ⟨i, rfl⟩)) hk hr q
  case invokespecial i =>
    rcases x with _ | ⟨x1, x⟩
    · rcases st with _ | ⟨a | a | (_ | a), _ | ⟨b, st⟩⟩ <;> first | (cases q; done) | skip
      obtain ⟨hd, ⟨-, w1, w2, w3, hf1, hl1⟩ | ⟨_, _, _, _, _, _, _, _, hbad, -⟩⟩ := ok
      · obtain ⟨hx, hb, hml, hts, hown, -⟩ := C0
        intro ls sv H locs cells slots ads tys ws hL hst hR hpre hK hP hD hS hn hz
        obtain ⟨V, T1, rfl, hV, hst1⟩ := zSt_r hst
        obtain ⟨a1, -, rfl⟩ := hV
        rcases T1 with _ | ⟨V2, T1⟩
        · refine W.objInit hx hb hown (hts _ w1) (hts _ w2) (hts _ w3) rfl (by rw [hml]; exact hL.1) rfl hd (by omega) ?_ ?_
          · have := lv_room (m := m) (pc := pc) (ls := ls) (rest := [Value.ref a1]) (st := []) (by simp)
            simp only [List.map_nil, List.sum_nil] at this ⊢
            omega
          · exact hk _ _ _ q _ _ _ _ _ _ _ _ _ hL hst1 hR hpre hK hP hD hS hn hz
        · exact hst1.elim
      · cases hbad
    · exact zX_sim hG hMt hMet hgr C0 hfr hlo ok (Or.inr (Or.inr ⟨i, rfl, by simp⟩)) hk hr q
  all_goals exact zS_arith (x := x) (cv := cv) (L := L) (st := st) (h := h) (k := k) C0 ok hk hr q
end ZRUN
theorem zB_sim {p : Program} {l : Launch} {e : Env} {R : Room} {s : State} {m : MethodId} {args : Array Value} {below : List Frame} {meth : Method} {c : Code} {Q : State → Prop} {cc : ByteArray} {nL : Nat} {own : String} {D : va_G} {cl : List vw_C} {A : Nat → Prop} {xs : List Int} {ads0 : List Nat} {n0 z0 : Nat} {Ts : List Cond} {ctor : Bool} {rt0 : Option FieldType}
    {mt : Nat → Option zM} {rec : Nat → Nat → zL → List zV → zH → Option zR} {M fr lo : Nat} (hG : zTk Ts) (hMt : ∀ (q : Nat) (y : MethodName) (by' : ByteArray) (mL : Nat) (rt : Option FieldType) (fr lo : Nat), q ≠ 0 → mt q = some (y, by', mL, rt, fr, lo) → (y.cls ≠ "java/lang/invoke/MethodHandle" ∧ y.cls ≠ "java/lang/invoke/VarHandle") ∧ Cond.code y by' mL rt ∈ Ts ∧ Cond.initialized y.cls ∈ Ts)
    (hMet : ∀ (q : Nat) (y : MethodName) (by' : ByteArray) (mL : Nat) (rt : Option FieldType) (fr lo : Nat) (vs : List zV) (h : zH) (r : zR), mt q = some (y, by', mL, rt, fr, lo) → rec q 0 (zargs vs) [] h = some r → zMet l cl Ts xs y by' mL rt fr lo vs h r)
    (hgr : ∀ m pc L st h r, rec m pc L st h = some r → zge h r.2)
    (C0 : zCtx p s m args meth c cc nL own ctor cl A xs ads0 Ts) (hfr : fr ≤ R.frames) (hlo : lo ≤ R.locals) {res : zR} (hroom : res.2.length ≤ R.cells + n0 ∧ zsz res.2 ≤ R.slots + z0) (hJ : ∀ pc L st h, rec M pc L st h = some res → zSim p l e R s m args below meth c Q nL D cl A ads0 n0 z0 pc L st h) (hF : zFin p l e R s m args below meth c Q cc rt0 D cl A ads0 n0 z0 res) :
    ∀ (b : List zE) (pc : Nat) (L : zL) (st : List zV) (h : zH), zBK mt cl Ts own ctor nL rt0 fr lo cc pc b → zB xs rec M b L st h = some res → zSim p l e R s m args below meth c Q nL D cl A ads0 n0 z0 pc L st h
  | [], pc, L, st, h, _, q => by cases q
  | (I, x, cv) :: t, pc, L, st, h, ok, q => zI_sim hG hMt hMet hgr C0 hfr hlo hJ hF ok.1 (fun L' st' h' q' => zB_sim hG hMt hMet hgr C0 hfr hlo hroom hJ hF t _ L' st' h' ok.2 q') (fun L' st' h' q' => by
      have := zgrow_B xs rec hgr M res t L' st' h' q'
      exact ⟨Nat.le_trans this.1 hroom.1, Nat.le_trans this.2 hroom.2⟩) q
def zGood (mt : Nat → Option zM) (B : Nat → Nat → Option (List zE)) (cl : List vw_C) (Ts : List Cond) (xs : List Int) (n : Nat) : Prop := ∀ (M : Nat) (y : MethodName) (by' : ByteArray) (mL : Nat) (rt : Option FieldType) (fr lo : Nat), mt M = some (y, by', mL, rt, fr, lo) →
  ∀ (p : Program) (l : Launch) (e : Env) (R : Room) (s : State) (m : MethodId) (args : Array Value) (below : List Frame) (meth : Method) (c : Code) (Q : State → Prop) (D : va_G) (A : Nat → Prop) (ads0 : List Nat) (n0 z0 : Nat) (res : zR), zCtx p s m args meth c by' mL y.cls (y.name == "<init>") cl A xs ads0 Ts → fr ≤ R.frames → lo ≤ R.locals → zFin p l e R s m args below meth c Q by' rt D cl A ads0 n0 z0 res → (res.2.length ≤ R.cells + n0 ∧ zsz res.2 ≤ R.slots + z0) →
  ∀ (pc : Nat) (L : zL) (st : List zV) (h : zH), zrun B xs n M pc L st h = some res → zSim p l e R s m args below meth c Q mL D cl A ads0 n0 z0 pc L st h
theorem zargs_lg {ads : List Nat} : ∀ {vs : List zV} {avs : List Value}, zSt ads vs avs → (lg_sl avs).length = (zargs vs).length
  | [], [], _ => rfl
  | .inl x :: t, V :: T, h => by
    have h1 := zargs_lg h.2
    have h2 := zcR_cat h.1
    simp [lg_sl, h2, zcat, zargs] at h1 ⊢
    exact h1
  | .inr (.inl x) :: t, V :: T, h => by
    have h1 := zargs_lg h.2
    have h2 := zcR_cat h.1
    simp [lg_sl, h2, zcat, zargs] at h1 ⊢
    omega
  | .inr (.inr x) :: t, V :: T, h => by
    have h1 := zargs_lg h.2
    have h2 := zcR_cat h.1
    simp [lg_sl, h2, zcat, zargs] at h1 ⊢
    exact h1
  | [], _ :: _, h => h.elim
  | _ :: _, [], h => h.elim
theorem zargs_lv {ads : List Nat} : ∀ (vs : List zV) (avs : List Value) (k : Nat), zSt ads vs avs → ∀ (i : Nat) (v : zV), (zargs vs)[i]? = some (some v) → ∃ V, (k + i, V) ∈ lv_args k avs ∧ zcR ads v V
  | [], [], k, _, i, v, h => by simp [zargs] at h
  | [], _ :: _, k, hh, i, v, h => hh.elim
  | _ :: _, [], k, hh, i, v, h => hh.elim
  | w :: t, V :: T, k, hh, i, v, h => by
    have h2 := zcR_cat hh.1
    rcases w with w | w | w
    · rcases i with _ | i
      · simp [zargs] at h
        subst h
        exact ⟨V, by simp [lv_args], hh.1⟩
      · simp [zargs] at h
        obtain ⟨V2, e1, e2⟩ := zargs_lv t T (k + 1) hh.2 i v h
        exact ⟨V2, by simp [lv_args, h2, zcat]; rw [show k + (i + 1) = k + 1 + i by omega]; exact e1, e2⟩
    · rcases i with _ | _ | i
      · simp [zargs] at h
        subst h
        exact ⟨V, by simp [lv_args], hh.1⟩
      · simp [zargs] at h
      · simp [zargs] at h
        obtain ⟨V2, e1, e2⟩ := zargs_lv t T (k + 2) hh.2 i v h
        exact ⟨V2, by simp [lv_args, h2, zcat]; rw [show k + (i + 1 + 1) = k + 2 + i by omega]; exact e1, e2⟩
    · rcases i with _ | i
      · simp [zargs] at h
        subst h
        exact ⟨V, by simp [lv_args], hh.1⟩
      · simp [zargs] at h
        obtain ⟨V2, e1, e2⟩ := zargs_lv t T (k + 1) hh.2 i v h
        exact ⟨V2, by simp [lv_args, h2, zcat]; rw [show k + (i + 1) = k + 1 + i by omega]; exact e1, e2⟩
theorem zMet_of {mt : Nat → Option zM} {B : Nat → Nat → Option (List zE)} {cl : List vw_C} {Ts : List Cond} {xs : List Int} (hW : zProg mt B cl Ts) {n : Nat} (ih : zGood mt B cl Ts xs n) (l : Launch) (M : Nat) (y : MethodName) (by' : ByteArray) (mL : Nat) (rt : Option FieldType) (fr lo : Nat) (vs : List zV) (h : zH) (r : zR) (hm : mt M = some (y, by', mL, rt, fr, lo)) (q : zrun B xs n M 0 (zargs vs) [] h = some r) : zMet l cl Ts xs y by' mL rt fr lo vs h r := by
  intro D ads b tys ws sz avs hb0 hR hvs hlen
  obtain ⟨hG, hcl, hW3⟩ := hW
  obtain ⟨hy, hplain, -, -⟩ := hW3 M y by' mL rt fr lo hm
  have hge := zgrow_run B xs n M 0 _ _ _ _ q
  refine Met.ofW (cc := by') (maxL := mL) (ret := rt) hplain rfl ?_
  intro p e s m args below meth c s₁ Bd hml hv
  obtain ⟨rfl, hsz, hP, hK, hD0, hX, hbl, hbA, hbw⟩ := hv
  have hx := Bd.exec
  have hb := Bd.bytes
  have hr := Bd.returns
  have hts : ∀ w ∈ Ts, w.before avs.toArray s = true := fun w hw => by
    rcases hG w hw with hg | hg
    · exact atoms_spec (ws := Cond.code y by' mL rt :: Ts.filter goodWord) Bd.pre w (List.mem_cons_of_mem _ (List.mem_filter.mpr ⟨hw, hg⟩))
    · exact zbad_use hg (hbw w hw hg)
  have hown : s.vm.findClass y.cls = some m.cls := findClass_of_methodNamed Bd.named
  have hlocks := Bd.notSynchronized
  have hin : (y.name == "<init>") = true → meth.name = "<init>" := fun hh => by
    rw [(name_of_methodNamed Bd.named Bd.method).1]
    exact eq_of_beq hh
  subst hsz
  have hD := hD0.self (sz := s.heap.size)
  have hA : ∀ q : Nat, s.heap.size ≤ q → va_A ws s.heap.size q := fun q h => Or.inr h
  rw [lg_entry_eq]
  have hl := lv_entry avs (n := mL) (by rw [zargs_lg hvs]; exact hlen)
  refine ih M y by' mL rt fr lo hm p l e _ s m avs.toArray below meth c _ D (va_A ws s.heap.size) ads h.length (zsz h) r ⟨hx, hb, hml, hts, hown, hA, hcl, hin, b, hb0, hX, hbl, hbA⟩ (Nat.le_refl _) (Nat.le_refl _) ?_ ⟨?_, ?_⟩ 0 (zargs vs) [] h q _ [] _ [] 0 0 ads tys ws ⟨hl.1, hl.2.1, fun i v hv => ?_⟩ trivial hR (zpre_rf _) hK hP hD va_S.rf (Nat.zero_add _) (Nat.zero_add _)
  · intro pc I ls rv H locs cells slots ads' tys' ws' hd hri hret hR' hpre' hK' hP' hD' hS' hn' hz'
    have e1 : cells = r.2.length - h.length := by omega
    have e2 : slots = zsz r.2 - zsz h := by omega
    subst e1
    subst e2
    have post : ∀ t : State, t.heap = H → s.WarmedH t.vm → zQc cl D ads ws s.heap.size r avs.toArray s (.returned rv) t := fun t ht hW => ⟨⟨rv, ads', tys', ws', rfl, hret, hR', hpre', by rw [ht]; exact hP', va_K.moved hW.alike hK', hD'⟩, hS'.F ht⟩
    rcases hri with ⟨rfl, v, rfl, hrt | ⟨hrt, hv⟩⟩ | ⟨rfl, hrt, v, rfl⟩ | ⟨rfl, V, rfl, hV, t, hrt, hkt⟩ | ⟨rfl, hrt, rfl⟩
    · exact W.iret hx hb (by rw [hr, hrt]) post hS'.2.2 hd hlocks
    · exact W.zret (ty := .boolean) hx hb (by rw [hr, hrt]) (by rcases hv with rfl | rfl <;> decide) post hS'.2.2 hd hlocks
    · exact W.lret hx hb (by rw [hr, hrt]) post hS'.2.2 hd hlocks
    · exact W.aret hx hb (by rw [hr, hrt]) hkt hV post hS'.2.2 hd hlocks
    · exact W.vret hx hb (by rw [hr, hrt]) post hS'.2.2 hd hlocks
  · show r.2.length ≤ (r.2.length - h.length) + h.length
    have := hge.1
    omega
  · show zsz r.2 ≤ (zsz r.2 - zsz h) + zsz h
    have := hge.2
    omega
  · obtain ⟨V, e1, e2⟩ := zargs_lv vs avs 0 hvs i v hv
    rw [Nat.zero_add] at e1
    exact ⟨V, hl.2.2 _ e1, e2⟩
theorem zGood_all {mt : Nat → Option zM} {B : Nat → Nat → Option (List zE)} {cl : List vw_C} {Ts : List Cond} {xs : List Int} (hW : zProg mt B cl Ts) : ∀ n, zGood mt B cl Ts xs n := by
  intro n
  induction n with
  | zero =>
    intro M y by' mL rt fr lo hm p l e R s m args below meth c Q D A ads0 n0 z0 res C0 hfr hlo hF hroom pc L st h q
    cases q
  | succ n ih =>
    intro M y by' mL rt fr lo hm p l e R s m args below meth c Q D A ads0 n0 z0 res C0 hfr hlo hF hroom pc L st h q
    rw [zrun] at q
    cases hb : B M pc with
    | none => rw [hb] at q; cases q
    | some b =>
      rw [hb] at q
      have hW3 := hW.2.2
      obtain ⟨-, -, -, hblk⟩ := hW3 M y by' mL rt fr lo hm
      refine zB_sim hW.1 (fun q y by' mL rt fr lo hq0 hq => ?_) (fun q y by' mL rt fr lo vs h r hq hrun => zMet_of hW ih l q y by' mL rt fr lo vs h r hq hrun) (zgrow_run B xs n) C0 hfr hlo hroom (fun pc L st h q' => ih M y by' mL rt fr lo hm p l e R s m args below meth c Q D A ads0 n0 z0 res C0 hfr hlo hF hroom pc L st h q') hF b pc L st h (hblk pc b hb) q
      obtain ⟨h1, -, h2, -⟩ := hW3 q y by' mL rt fr lo hq
      exact ⟨h1, h2 hq0⟩
end
section
/-! ===== the tables are right: what a program can check of them ===== -/
def zcpOK (mt : Nat → Option zM) (cl : List vw_C) (Ts : List Cond) (own : String) (idx : Nat) (e : List Nat) : Prop := match e with
  | [0, ci, j, k, fin] => ∃ (T : u_T) (N : Nat), cl[ci]? = some (own, T, N) ∧ j < N ∧ (T j).1 = own ∧ Cond.fieldLink own idx own (T j).2.1 (T j).2.2.1 ∈ Ts ∧ (∃ ty, parseFieldDescriptor (T j).2.2.1 = some ty ∧ zKd k ty) ∧ (fin = 0 → (T j).2.2.2 = false)
  | [1, q, n, mx, f2, l2, ci] => ∃ y by' rt T N, q ≠ 0 ∧ mt q = some (y, by', mx, rt, f2, l2) ∧ (parseMethodDescriptor y.desc).map (fun d => d.parameters.length) = some n ∧ cl[ci]? = some (y.cls, T, N) ∧ Cond.methodLink own idx y ∈ Ts ∧ Cond.instanceMethod y ∈ Ts ∧ Cond.selects y.cls y y ∈ Ts
  | [2, q, n, mx, f2, l2] => ∃ y by' rt, q ≠ 0 ∧ mt q = some (y, by', mx, rt, f2, l2) ∧ (parseMethodDescriptor y.desc).map (fun d => d.parameters.length) = some n ∧ (Cond.methodLink own idx y ∈ Ts ∨ ∃ host, Cond.methodLinkNest own idx y host ∈ Ts) ∧ Cond.static y ∈ Ts
  | [3, q, n, mx, f2, l2, ci] => ∃ y by' T N, q ≠ 0 ∧ mt q = some (y, by', mx, none, f2, l2) ∧ (parseMethodDescriptor y.desc).map (fun d => d.parameters.length) = some n ∧ cl[ci]? = some (y.cls, T, N) ∧ (Cond.methodLink own idx y ∈ Ts ∨ ∃ host, Cond.methodLinkNest own idx y host ∈ Ts) ∧ Cond.instanceMethod y ∈ Ts ∧ y.name = "<init>"
  | [4] => Cond.methodLink own idx Lib.objectInit ∈ Ts ∧ Cond.instanceMethod Lib.objectInit ∈ Ts ∧ Cond.code Lib.objectInit ⟨#[0xb1]⟩ 1 none ∈ Ts
  | 5 :: ci :: ks => zNw cl Ts own idx ci ks
  | [6, ci] => ∃ C T N, cl[ci]? = some (C, T, N) ∧ Cond.classLink own (idx - 100000) C ∈ Ts ∧ Cond.arrayOver (.object C) ∈ Ts
  | [7, sg, a] => Cond.constant own idx (Int32.ofInt (if sg = 0 then (a : Int) else -(a : Int))) ∈ Ts
  | [8, sg, a] => Cond.constantLong own idx (Int64.ofInt (if sg = 0 then (a : Int) else -(a : Int))) ∈ Ts
  | _ => False
def zfnd (cp : List (Nat × List Nat)) (i : Nat) : List Nat := (cp.lookup i).getD []
def zdec (cc : ByteArray) (pc : Nat) (I : Instr) (n : Nat) : Bool := decide (decode cc pc = .ok (I, n))
/-- a jump's target -/
def zjmp (pc : Nat) (off : Int) (x : List Nat) : Bool := match x with
  | t :: _ => decide ((pc : Int) + off = (t : Int))
  | [] => false
def zck1 (cp : List (Nat × List Nat)) (ctor : Bool) (nL : Nat) (rt : Option FieldType) (fr lo : Nat) (cc : ByteArray) (pc : Nat) (I : Instr) (x : List Nat) (c : Int) : Bool := match I with
  | .nop => match x with | t :: _ => t == pc | [] => false
  | .goto off => zdec cc pc (.goto off) 3 && zjmp pc off x
  | .ifCond cd off => zdec cc pc (.ifCond cd off) 3 && zjmp pc off x
  | .if_icmp cd off => zdec cc pc (.if_icmp cd off) 3 && zjmp pc off x
  | .ifnull off => zdec cc pc (.ifnull off) 3 && zjmp pc off x
  | .ifnonnull off => zdec cc pc (.ifnonnull off) 3 && zjmp pc off x
  | .tableswitch d lo2 hi2 offs => zdec cc pc (.tableswitch d lo2 hi2 offs) c.toNat && (match x with
    | n :: dt :: rest => decide ((pc : Int) + d = (dt : Int)) && (offs.toList.map fun o => (pc : Int) + o) == ((rest.drop n).map fun (t : Nat) => (t : Int))
    | _ => false)
  | .ireturn => zdec cc pc .ireturn 1 && ((x == [0] && decide (rt = some .int)) || (x == [1] && decide (rt = some .boolean)))
  | .lreturn => zdec cc pc .lreturn 1 && decide (rt = some .long)
  | .areturn => zdec cc pc .areturn 1 && (match rt with | some (.object _) => true | some (.array _) => true | _ => false)
  | .return_ => zdec cc pc .return_ 1 && decide (rt = none)
  | .invokevirtual i => zdec cc pc (.invokevirtual i) 3 && (match zfnd cp i, x with | [1, q, n, mx, f2, l2, ci], [q', n', _, mx', ci'] => q == q' && n + 1 == n' && mx == mx' && ci == ci' && decide (f2 + 1 ≤ fr) && decide (8 + (mx + 11) + l2 ≤ lo) | _, _ => false)
  | .invokestatic i => zdec cc pc (.invokestatic i) 3 && (match zfnd cp i, x with | [2, q, n, mx, f2, l2], [q', n', _, mx'] => q == q' && n == n' && mx == mx' && decide (f2 + 1 ≤ fr) && decide (8 + (mx + 11) + l2 ≤ lo) | _, _ => false)
  | .invokespecial i => zdec cc pc (.invokespecial i) 3 && (match zfnd cp i, x with | [4], [] => decide (1 ≤ fr) && decide (20 ≤ lo) | [3, q, n, mx, f2, l2, ci], [q', n', _, mx', ci'] => q == q' && n + 1 == n' && mx == mx' && ci == ci' && decide (f2 + 1 ≤ fr) && decide (8 + (mx + 11) + l2 ≤ lo) | _, _ => false)
  | .bipush n => zdec cc pc (.bipush n) 2 && decide (-128 ≤ n) && decide (n ≤ 127)
  | .sipush n => zdec cc pc (.sipush n) 3 && decide (-32768 ≤ n) && decide (n ≤ 32767)
  | .ldc i => zdec cc pc (.ldc i) 2 && (match zfnd cp i with | [7, sg, a] => decide (c = if sg = 0 then (a : Int) else -(a : Int)) | _ => false)
  | .ldc_w i => zdec cc pc (.ldc_w i) 3 && (match zfnd cp i with | [7, sg, a] => decide (c = if sg = 0 then (a : Int) else -(a : Int)) | _ => false)
  | .ldc2_w i => zdec cc pc (.ldc2_w i) 3 && (match zfnd cp i with | [8, sg, a] => decide (c = if sg = 0 then (a : Int) else -(a : Int)) | _ => false)
  | .istore i => zdec cc pc (.istore i) 2 && decide (i < nL)
  | .istore_n i => zdec cc pc (.istore_n i) 1 && decide ((i : Nat) < nL)
  | .astore i => zdec cc pc (.astore i) 2 && decide (i < nL)
  | .astore_n i => zdec cc pc (.astore_n i) 1 && decide ((i : Nat) < nL)
  | .lstore i => zdec cc pc (.lstore i) 2 && decide (i + 1 < nL)
  | .lstore_n i => zdec cc pc (.lstore_n i) 1 && decide ((i : Nat) + 1 < nL)
  | .getfield i => zdec cc pc (.getfield i) 3 && (match zfnd cp i, x with | [0, ci, j, _, _], [ci', j', _] => ci == ci' && j == j' | _, _ => false)
  | .putfield i => zdec cc pc (.putfield i) 3 && (match zfnd cp i, x with | [0, ci, j, k, fin], [ci', j', k'] => ci == ci' && j == j' && k == k' && (fin == 0 || ctor) | _, _ => false)
  | .new i => zdec cc pc (.new i) 3 && (match zfnd cp i with | 5 :: ks => ks == x | _ => false)
  | .newarray t => zdec cc pc (.newarray t) 2 && ((x == [0] && decide (t = .int)) || (x == [1] && decide (t = .long)))
  | .anewarray i => zdec cc pc (.anewarray i) 3 && (match zfnd cp (i + 100000) with | [6, ci] => x == [102 + ci] | _ => false)
  | .aaload => zdec cc pc .aaload 1 && (match x with | [t] => decide (102 ≤ t) | _ => false)
  | .aastore => zdec cc pc .aastore 1 && (match x with | [t, ci] => t == 102 + ci | _ => false)
  | I => zdec cc pc I (zlen I)
def zckB (cp : List (Nat × List Nat)) (ctor : Bool) (nL : Nat) (rt : Option FieldType) (fr lo : Nat) (cc : ByteArray) : Nat → List zE → Bool
  | _, [] => true
  | pc, (I, x, c) :: t => zck1 cp ctor nL rt fr lo cc pc I x c && zckB cp ctor nL rt fr lo cc (pc + zlen I) t
theorem zfnd_ok {mt : Nat → Option zM} {cl : List vw_C} {Ts : List Cond} {own : String} {cp : List (Nat × List Nat)} (hcp : ∀ i e, cp.lookup i = some e → zcpOK mt cl Ts own i e) {i n : Nat} {e : List Nat} (h : zfnd cp i = n :: e) : zcpOK mt cl Ts own i (n :: e) := by
  unfold zfnd at h
  cases hl : cp.lookup i with
  | none => rw [hl] at h; cases h
  | some e2 =>
    rw [hl] at h
    simp at h
    subst h
    exact hcp _ _ hl
theorem zdec_ok {cc : ByteArray} {pc n : Nat} {I : Instr} (h : zdec cc pc I n = true) : decode cc pc = .ok (I, n) := of_decide_eq_true h
theorem zjmp_ok {pc : Nat} {off : Int} {x : List Nat} (h : zjmp pc off x = true) : ∃ t mm, x = t :: mm ∧ (pc : Int) + off = (t : Int) := by
  rcases x with _ | ⟨t, x⟩
  · cases h
  · exact ⟨t, x, rfl, of_decide_eq_true h⟩
theorem zck1_ok {mt : Nat → Option zM} {cl : List vw_C} {Ts : List Cond} {own : String} {cp : List (Nat × List Nat)} (hcp : ∀ i e, cp.lookup i = some e → zcpOK mt cl Ts own i e) (hai : Cond.arrayClass .int ∈ Ts) (hal : Cond.arrayClass .long ∈ Ts) {ctor : Bool} {nL : Nat} {rt : Option FieldType} {fr lo : Nat} {cc : ByteArray} {pc : Nat} {I : Instr} {x : List Nat} {c : Int} (h : zck1 cp ctor nL rt fr lo cc pc I x c = true) : zIOK mt cl Ts own ctor nL rt fr lo cc pc I x c := by
  cases I
  case nop =>
    rcases x with _ | ⟨t, x⟩
    · cases h
    · have := eq_of_beq h
      subst this
      exact ⟨x, rfl⟩
  case goto off => simp only [zck1, Bool.and_eq_true] at h; exact ⟨zdec_ok h.1, zjmp_ok h.2⟩
  case ifCond cd off => simp only [zck1, Bool.and_eq_true] at h; exact ⟨zdec_ok h.1, zjmp_ok h.2⟩
  case if_icmp cd off => simp only [zck1, Bool.and_eq_true] at h; exact ⟨zdec_ok h.1, zjmp_ok h.2⟩
  case ifnull off => simp only [zck1, Bool.and_eq_true] at h; exact ⟨zdec_ok h.1, zjmp_ok h.2⟩
  case ifnonnull off => simp only [zck1, Bool.and_eq_true] at h; exact ⟨zdec_ok h.1, zjmp_ok h.2⟩
  case tableswitch d lo2 hi2 offs =>
    simp only [zck1, Bool.and_eq_true] at h
    obtain ⟨h1, h2⟩ := h
    rcases x with _ | ⟨n, _ | ⟨dt, rest⟩⟩
    · cases h2
    · cases h2
    · simp only [Bool.and_eq_true] at h2
      refine ⟨_, zdec_ok h1, n, dt, rest, rfl, of_decide_eq_true h2.1, fun j t ht => ?_⟩
      have h3 := eq_of_beq h2.2
      have h4 : ((rest.drop n).map fun (t : Nat) => (t : Int))[j]? = some (t : Int) := by rw [List.getElem?_map, ht]; rfl
      rw [← h3, List.getElem?_map] at h4
      cases ho : offs.toList[j]? with
      | none => rw [ho] at h4; cases h4
      | some o =>
        rw [ho] at h4
        refine ⟨o, by rw [← Array.getElem?_toList]; exact ho, ?_⟩
        simpa using h4
  case ireturn =>
    simp only [zck1, Bool.and_eq_true, Bool.or_eq_true, decide_eq_true_eq, beq_iff_eq] at h
    exact ⟨zdec_ok h.1, h.2⟩
  case lreturn =>
    simp only [zck1, Bool.and_eq_true, decide_eq_true_eq] at h
    exact ⟨zdec_ok h.1, h.2⟩
  case areturn =>
    simp only [zck1, Bool.and_eq_true] at h
    refine ⟨zdec_ok h.1, ?_⟩
    have h2 := h.2
    split at h2
    next n => exact ⟨_, rfl, Or.inl ⟨n, rfl⟩⟩
    next t => exact ⟨_, rfl, Or.inr ⟨t, rfl⟩⟩
    next => cases h2
  case return_ =>
    simp only [zck1, Bool.and_eq_true, decide_eq_true_eq] at h
    exact ⟨zdec_ok h.1, h.2⟩
  case invokevirtual i =>
    simp only [zck1, Bool.and_eq_true] at h
    refine ⟨zdec_ok h.1, ?_⟩
    have h2 := h.2
    split at h2
    next q n mx f2 l2 ci q' n' t mx' ci' he =>
      simp only [Bool.and_eq_true, decide_eq_true_eq, beq_iff_eq] at h2
      obtain ⟨⟨⟨⟨⟨rfl, rfl⟩, rfl⟩, rfl⟩, hf⟩, hl⟩ := h2
      obtain ⟨y, by', rt2, T, N, e0, e1, e2, e3, e4, e5, e6⟩ := zfnd_ok hcp he
      exact ⟨q, n, t, mx, ci, y, rt2, T, N, rfl, ⟨by', f2, l2, e0, e1, hf, hl, e2⟩, e3, e4, e5, e6⟩
    next => cases h2
  case invokestatic i =>
    simp only [zck1, Bool.and_eq_true] at h
    refine ⟨zdec_ok h.1, ?_⟩
    have h2 := h.2
    split at h2
    next q n mx f2 l2 q' n' t mx' he =>
      simp only [Bool.and_eq_true, decide_eq_true_eq, beq_iff_eq] at h2
      obtain ⟨⟨⟨⟨rfl, rfl⟩, rfl⟩, hf⟩, hl⟩ := h2
      obtain ⟨y, by', rt2, e0, e1, e2, e3, e4⟩ := zfnd_ok hcp he
      exact ⟨q, n, t, mx, y, rt2, rfl, ⟨by', f2, l2, e0, e1, hf, hl, e2⟩, e3, e4⟩
    next => cases h2
  case invokespecial i =>
    simp only [zck1, Bool.and_eq_true] at h
    refine ⟨zdec_ok h.1, ?_⟩
    have h2 := h.2
    split at h2
    next he =>
      simp only [Bool.and_eq_true, decide_eq_true_eq] at h2
      obtain ⟨e1, e2, e3⟩ := zfnd_ok hcp he
      exact Or.inl ⟨rfl, e1, e2, e3, h2.1, h2.2⟩
    next q n mx f2 l2 ci q' n' t mx' ci' he =>
      simp only [Bool.and_eq_true, decide_eq_true_eq, beq_iff_eq] at h2
      obtain ⟨⟨⟨⟨⟨rfl, rfl⟩, rfl⟩, rfl⟩, hf⟩, hl⟩ := h2
      obtain ⟨y, by', T, N, e0, e1, e2, e3, e4, e5, e6⟩ := zfnd_ok hcp he
      exact Or.inr ⟨q, n, t, mx, ci, y, T, N, rfl, ⟨by', f2, l2, e0, e1, hf, hl, e2⟩, e3, e4, e5, e6⟩
    next => cases h2
  case bipush n => simp only [zck1, Bool.and_eq_true, decide_eq_true_eq] at h; exact ⟨zdec_ok h.1.1, h.1.2, h.2⟩
  case sipush n => simp only [zck1, Bool.and_eq_true, decide_eq_true_eq] at h; exact ⟨zdec_ok h.1.1, h.1.2, h.2⟩
  case ldc i =>
    simp only [zck1, Bool.and_eq_true] at h
    refine ⟨zdec_ok h.1, ?_⟩
    have h2 := h.2
    split at h2
    next sg a he => rw [of_decide_eq_true h2]; exact zfnd_ok hcp he
    next => cases h2
  case ldc_w i =>
    simp only [zck1, Bool.and_eq_true] at h
    refine ⟨zdec_ok h.1, ?_⟩
    have h2 := h.2
    split at h2
    next sg a he => rw [of_decide_eq_true h2]; exact zfnd_ok hcp he
    next => cases h2
  case ldc2_w i =>
    simp only [zck1, Bool.and_eq_true] at h
    refine ⟨zdec_ok h.1, ?_⟩
    have h2 := h.2
    split at h2
    next sg a he => rw [of_decide_eq_true h2]; exact zfnd_ok hcp he
    next => cases h2
  case istore i => simp only [zck1, Bool.and_eq_true, decide_eq_true_eq] at h; exact ⟨zdec_ok h.1, h.2⟩
  case istore_n i => simp only [zck1, Bool.and_eq_true, decide_eq_true_eq] at h; exact ⟨zdec_ok h.1, h.2⟩
  case astore i => simp only [zck1, Bool.and_eq_true, decide_eq_true_eq] at h; exact ⟨zdec_ok h.1, h.2⟩
  case astore_n i => simp only [zck1, Bool.and_eq_true, decide_eq_true_eq] at h; exact ⟨zdec_ok h.1, h.2⟩
  case lstore i => simp only [zck1, Bool.and_eq_true, decide_eq_true_eq] at h; exact ⟨zdec_ok h.1, h.2⟩
  case lstore_n i => simp only [zck1, Bool.and_eq_true, decide_eq_true_eq] at h; exact ⟨zdec_ok h.1, h.2⟩
  case getfield i =>
    simp only [zck1, Bool.and_eq_true] at h
    refine ⟨zdec_ok h.1, ?_⟩
    have h2 := h.2
    split at h2
    next ci j k fin ci' j' k' he =>
      simp only [Bool.and_eq_true, beq_iff_eq] at h2
      obtain ⟨rfl, rfl⟩ := h2
      obtain ⟨T, N, e1, e2, e3, e4, -⟩ := zfnd_ok hcp he
      exact ⟨ci, j, k', rfl, T, N, e1, e2, e3, e4⟩
    next => cases h2
  case putfield i =>
    simp only [zck1, Bool.and_eq_true] at h
    refine ⟨zdec_ok h.1, ?_⟩
    have h2 := h.2
    split at h2
    next ci j k fin ci' j' k' he =>
      simp only [Bool.and_eq_true, Bool.or_eq_true, beq_iff_eq] at h2
      obtain ⟨⟨⟨rfl, rfl⟩, rfl⟩, hfin⟩ := h2
      obtain ⟨T, N, e1, e2, e3, e4, e5, e6⟩ := zfnd_ok hcp he
      exact ⟨ci, j, k, rfl, T, N, e1, e2, e3, e4, e5, hfin.imp e6 id⟩
    next => cases h2
  case new i =>
    simp only [zck1, Bool.and_eq_true] at h
    refine ⟨zdec_ok h.1, ?_⟩
    have h2 := h.2
    split at h2
    next ks he =>
      have := eq_of_beq h2
      subst this
      have h3 := zfnd_ok hcp he
      rcases ks with _ | ⟨ci, ks⟩
      · exact h3.elim
      · exact ⟨ci, ks, rfl, h3⟩
    next => cases h2
  case newarray t =>
    simp only [zck1, Bool.and_eq_true, Bool.or_eq_true, decide_eq_true_eq, beq_iff_eq] at h
    refine ⟨zdec_ok h.1, ?_⟩
    rcases h.2 with ⟨h1, h2⟩ | ⟨h1, h2⟩
    · exact Or.inl ⟨h1, h2, hai⟩
    · exact Or.inr ⟨h1, h2, hal⟩
  case anewarray i =>
    simp only [zck1, Bool.and_eq_true] at h
    refine ⟨zdec_ok h.1, ?_⟩
    have h2 := h.2
    split at h2
    next ci he =>
      obtain ⟨C, T, N, e1, e2, e3⟩ := zfnd_ok hcp he
      rw [Nat.add_sub_cancel] at e2
      exact ⟨ci, C, T, N, eq_of_beq h2, e1, e2, e3⟩
    next => cases h2
  case aaload =>
    simp only [zck1, Bool.and_eq_true] at h
    refine ⟨zdec_ok h.1, ?_⟩
    have h2 := h.2
    split at h2
    next t => exact ⟨t - 102, by have := of_decide_eq_true h2; simp; omega⟩
    next => cases h2
  case aastore =>
    simp only [zck1, Bool.and_eq_true] at h
    refine ⟨zdec_ok h.1, ?_⟩
    have h2 := h.2
    split at h2
    next t ci => exact ⟨ci, by rw [eq_of_beq h2]⟩
    next => cases h2
  all_goals exact ⟨zdec_ok h, trivial⟩
theorem zckB_ok {mt : Nat → Option zM} {cl : List vw_C} {Ts : List Cond} {own : String} {cp : List (Nat × List Nat)} (hcp : ∀ i e, cp.lookup i = some e → zcpOK mt cl Ts own i e) (hai : Cond.arrayClass .int ∈ Ts) (hal : Cond.arrayClass .long ∈ Ts) {ctor : Bool} {nL : Nat} {rt : Option FieldType} {fr lo : Nat} {cc : ByteArray} : ∀ {b : List zE} {pc : Nat}, zckB cp ctor nL rt fr lo cc pc b = true → zBK mt cl Ts own ctor nL rt fr lo cc pc b
  | [], _, _ => trivial
  | (I, x, c) :: t, pc, h => by
    simp only [zckB, Bool.and_eq_true] at h
    exact ⟨zck1_ok hcp hai hal h.1, zckB_ok hcp hai hal h.2⟩
/-- all blocks of a method -/
def zckM (cp : List (Nat × List Nat)) (ctor : Bool) (nL : Nat) (rt : Option FieldType) (fr lo : Nat) (cc : ByteArray) (bs : List (Nat × List zE)) : Bool := bs.all fun q => zckB cp ctor nL rt fr lo cc q.1 q.2
theorem zlook {α : Type} : ∀ {l : List (Nat × α)} {i : Nat} {e : α}, l.lookup i = some e → (i, e) ∈ l
  | [], _, _, h => by cases h
  | (j, d) :: t, i, e, h => by
    rw [List.lookup_cons] at h
    cases hij : (i == j) with
    | true =>
      rw [hij] at h
      cases h
      rw [eq_of_beq hij]
      exact List.mem_cons_self
    | false =>
      rw [hij] at h
      exact List.mem_cons_of_mem _ (zlook h)
theorem zckM_ok {mt : Nat → Option zM} {cl : List vw_C} {Ts : List Cond} {own : String} {cp : List (Nat × List Nat)} (hcp : ∀ q ∈ cp, zcpOK mt cl Ts own q.1 q.2) (hai : Cond.arrayClass .int ∈ Ts) (hal : Cond.arrayClass .long ∈ Ts) {ctor : Bool} {nL : Nat} {rt : Option FieldType} {fr lo : Nat} {cc : ByteArray} {bs : List (Nat × List zE)} (h : zckM cp ctor nL rt fr lo cc bs = true) (pc : Nat) (b : List zE) (hb : bs.lookup pc = some b) : zBK mt cl Ts own ctor nL rt fr lo cc pc b :=
  zckB_ok (fun i e he => hcp _ (zlook he)) hai hal (List.all_eq_true.mp h _ (zlook hb))
end
section
/-! ===== the claim's own code, as the reading has it (printed by a program of mine out of javap's listing; checked in the next part) ===== -/
def zcls : List vw_C := [(RX0, TX0, 3), (RX1, TX1, 2), (RX2, TX2, 2), (RX3, TX3, 2), (RX4, TX4, 2), (RX5, TX5, 4), (RX6, TX6, 14), (RX7, TX7, 27)]
/-- MindReadersLaw.law([I)Z -/
def zc_0 : List (Nat × List zE) := [(0, [(.new 7, [6, 2, 2, 2, 0, 2, 2, 2, 2, 0, 2, 2, 2, 2, 2], 0), (.dup, [], 0), (.invokespecial 9, [1, 1, 0, 2, 6], 0), (.astore_n 1, [], 0), (.new 10, [7, 2, 0, 0, 0, 2, 0, 2, 2, 0, 2, 0, 2, 2, 0, 2, 2, 0, 2, 0, 2, 2, 2, 0, 0, 2, 2, 1], 0), (.dup, [], 0), (.invokespecial 12, [66, 1, 0, 1, 7], 0), (.astore_n 2, [], 0), (.iconst 0, [], 0), (.istore_n 3, [], 0), (.nop, [18, 1, 1, 1, 1], 0)]),
  (18, [(.iload_n 3, [], 0), (.aload_n 0, [], 0), (.arraylength, [], 0), (.bipush 6, [], 0), (.isub, [], 0), (.if_icmp .gt 1169, [1193], 0), (.aload_n 0, [], 0), (.iload_n 3, [], 0), (.iaload, [], 0), (.bipush 63, [], 0), (.iand, [], 0), (.tableswitch 1154 0 34 #[155, 208, 221, 234, 247, 300, 333, 366, 389, 422, 465, 488, 521, 554, 577, 610, 633, 666, 699, 722, 745, 809, 832, 845, 858, 891, 925, 958, 981, 1035, 1068, 1091, 1104, 1117, 1140], [4, 1187, 1, 1, 1, 1, 188, 241, 254, 267, 280, 333, 366, 399, 422, 455, 498, 521, 554, 587, 610, 643, 666, 699, 732, 755, 778, 842, 865, 878, 891, 924, 958, 991, 1014, 1068, 1101, 1124, 1137, 1150, 1173], 155)]),
  (188, [(.aload_n 1, [], 0), (.aload_n 0, [], 0), (.iload_n 3, [], 0), (.iconst 1, [], 0), (.iadd, [], 0), (.iaload, [], 0), (.i2l, [], 0), (.bipush 32, [], 0), (.lshl, [], 0), (.aload_n 0, [], 0), (.iload_n 3, [], 0), (.iconst 2, [], 0), (.iadd, [], 0), (.iaload, [], 0), (.i2l, [], 0), (.ldc2_w 13, [], 4294967295), (.land, [], 0), (.lor, [], 0), (.invokevirtual 15, [2, 2, 1, 5, 6], 0), (.aload_n 2, [], 0), (.aload_n 0, [], 0), (.iload_n 3, [], 0), (.iconst 1, [], 0), (.iadd, [], 0), (.iaload, [], 0), (.i2l, [], 0), (.bipush 32, [], 0), (.lshl, [], 0), (.aload_n 0, [], 0), (.iload_n 3, [], 0), (.iconst 2, [], 0), (.iadd, [], 0), (.iaload, [], 0), (.i2l, [], 0), (.ldc2_w 13, [], 4294967295), (.land, [], 0), (.lor, [], 0), (.invokevirtual 19, [68, 2, 1, 9, 7], 0), (.if_icmp .eq 951, [1187, 1, 1, 1, 1], 0), (.iconst 0, [], 0), (.ireturn, [1], 0)]),
  (241, [(.aload_n 1, [], 0), (.invokevirtual 20, [3, 1, 1, 2, 6], 0), (.aload_n 2, [], 0), (.invokevirtual 24, [69, 1, 1, 2, 7], 0), (.if_icmp .eq 938, [1187, 1, 1, 1, 1], 0), (.iconst 0, [], 0), (.ireturn, [1], 0)]),
  (254, [(.aload_n 1, [], 0), (.invokevirtual 25, [4, 1, 1, 1, 6], 0), (.aload_n 2, [], 0), (.invokevirtual 28, [72, 1, 1, 1, 7], 0), (.if_icmp .eq 925, [1187, 1, 1, 1, 1], 0), (.iconst 0, [], 0), (.ireturn, [1], 0)]),
  (267, [(.aload_n 1, [], 0), (.invokevirtual 29, [5, 1, 1, 3, 6], 0), (.aload_n 2, [], 0), (.invokevirtual 32, [73, 1, 1, 2, 7], 0), (.if_icmp .eq 912, [1187, 1, 1, 1, 1], 0), (.iconst 0, [], 0), (.ireturn, [1], 0)]),
  (280, [(.aload_n 1, [], 0), (.aload_n 0, [], 0), (.iload_n 3, [], 0), (.iconst 1, [], 0), (.iadd, [], 0), (.iaload, [], 0), (.aload_n 0, [], 0), (.iload_n 3, [], 0), (.iconst 2, [], 0), (.iadd, [], 0), (.iaload, [], 0), (.aload_n 0, [], 0), (.iload_n 3, [], 0), (.iconst 3, [], 0), (.iadd, [], 0), (.iaload, [], 0), (.aload_n 0, [], 0), (.iload_n 3, [], 0), (.iconst 4, [], 0), (.iadd, [], 0), (.iaload, [], 0), (.invokevirtual 33, [6, 5, 1, 7, 6], 0), (.aload_n 2, [], 0), (.aload_n 0, [], 0), (.iload_n 3, [], 0), (.iconst 1, [], 0), (.iadd, [], 0), (.iaload, [], 0), (.aload_n 0, [], 0), (.iload_n 3, [], 0), (.iconst 2, [], 0), (.iadd, [], 0), (.iaload, [], 0), (.aload_n 0, [], 0), (.iload_n 3, [], 0), (.iconst 3, [], 0), (.iadd, [], 0), (.iaload, [], 0), (.aload_n 0, [], 0), (.iload_n 3, [], 0), (.iconst 4, [], 0), (.iadd, [], 0), (.iaload, [], 0), (.invokevirtual 37, [75, 5, 1, 6, 7], 0), (.if_icmp .eq 859, [1187, 1, 1, 1, 1], 0), (.iconst 0, [], 0), (.ireturn, [1], 0)]),
  (333, [(.aload_n 1, [], 0), (.aload_n 0, [], 0), (.iload_n 3, [], 0), (.iconst 1, [], 0), (.iadd, [], 0), (.iaload, [], 0), (.aload_n 0, [], 0), (.iload_n 3, [], 0), (.iconst 2, [], 0), (.iadd, [], 0), (.iaload, [], 0), (.invokevirtual 38, [7, 3, 1, 5, 6], 0), (.aload_n 2, [], 0), (.aload_n 0, [], 0), (.iload_n 3, [], 0), (.iconst 1, [], 0), (.iadd, [], 0), (.iaload, [], 0), (.aload_n 0, [], 0), (.iload_n 3, [], 0), (.iconst 2, [], 0), (.iadd, [], 0), (.iaload, [], 0), (.invokevirtual 42, [77, 3, 1, 5, 7], 0), (.if_icmp .eq 826, [1187, 1, 1, 1, 1], 0), (.iconst 0, [], 0), (.ireturn, [1], 0)]),
  (366, [(.aload_n 1, [], 0), (.aload_n 0, [], 0), (.iload_n 3, [], 0), (.iconst 1, [], 0), (.iadd, [], 0), (.iaload, [], 0), (.aload_n 0, [], 0), (.iload_n 3, [], 0), (.iconst 2, [], 0), (.iadd, [], 0), (.iaload, [], 0), (.invokevirtual 43, [8, 3, 1, 3, 6], 0), (.aload_n 2, [], 0), (.aload_n 0, [], 0), (.iload_n 3, [], 0), (.iconst 1, [], 0), (.iadd, [], 0), (.iaload, [], 0), (.aload_n 0, [], 0), (.iload_n 3, [], 0), (.iconst 2, [], 0), (.iadd, [], 0), (.iaload, [], 0), (.invokevirtual 46, [78, 3, 1, 3, 7], 0), (.if_icmp .eq 793, [1187, 1, 1, 1, 1], 0), (.iconst 0, [], 0), (.ireturn, [1], 0)]),
  (399, [(.aload_n 1, [], 0), (.aload_n 0, [], 0), (.iload_n 3, [], 0), (.iconst 1, [], 0), (.iadd, [], 0), (.iaload, [], 0), (.invokevirtual 47, [9, 2, 1, 2, 6], 0), (.aload_n 2, [], 0), (.aload_n 0, [], 0), (.iload_n 3, [], 0), (.iconst 1, [], 0), (.iadd, [], 0), (.iaload, [], 0), (.invokevirtual 51, [79, 2, 1, 2, 7], 0), (.if_icmp .eq 770, [1187, 1, 1, 1, 1], 0), (.iconst 0, [], 0), (.ireturn, [1], 0)]),
  (422, [(.aload_n 1, [], 0), (.aload_n 0, [], 0), (.iload_n 3, [], 0), (.iconst 1, [], 0), (.iadd, [], 0), (.iaload, [], 0), (.aload_n 0, [], 0), (.iload_n 3, [], 0), (.iconst 2, [], 0), (.iadd, [], 0), (.iaload, [], 0), (.invokevirtual 52, [10, 3, 1, 4, 6], 0), (.aload_n 2, [], 0), (.aload_n 0, [], 0), (.iload_n 3, [], 0), (.iconst 1, [], 0), (.iadd, [], 0), (.iaload, [], 0), (.aload_n 0, [], 0), (.iload_n 3, [], 0), (.iconst 2, [], 0), (.iadd, [], 0), (.iaload, [], 0), (.invokevirtual 55, [81, 3, 1, 4, 7], 0), (.if_icmp .eq 737, [1187, 1, 1, 1, 1], 0), (.iconst 0, [], 0), (.ireturn, [1], 0)]),
  (455, [(.aload_n 1, [], 0), (.aload_n 0, [], 0), (.iload_n 3, [], 0), (.iconst 1, [], 0), (.iadd, [], 0), (.iaload, [], 0), (.aload_n 0, [], 0), (.iload_n 3, [], 0), (.iconst 2, [], 0), (.iadd, [], 0), (.iaload, [], 0), (.aload_n 0, [], 0), (.iload_n 3, [], 0), (.iconst 3, [], 0), (.iadd, [], 0), (.iaload, [], 0), (.invokevirtual 56, [11, 4, 1, 5, 6], 0), (.aload_n 2, [], 0), (.aload_n 0, [], 0), (.iload_n 3, [], 0), (.iconst 1, [], 0), (.iadd, [], 0), (.iaload, [], 0), (.aload_n 0, [], 0), (.iload_n 3, [], 0), (.iconst 2, [], 0), (.iadd, [], 0), (.iaload, [], 0), (.aload_n 0, [], 0), (.iload_n 3, [], 0), (.iconst 3, [], 0), (.iadd, [], 0), (.iaload, [], 0), (.invokevirtual 60, [90, 4, 1, 4, 7], 0), (.if_icmp .eq 694, [1187, 1, 1, 1, 1], 0), (.iconst 0, [], 0), (.ireturn, [1], 0)]),
  (498, [(.aload_n 1, [], 0), (.aload_n 0, [], 0), (.iload_n 3, [], 0), (.iconst 1, [], 0), (.iadd, [], 0), (.iaload, [], 0), (.invokevirtual 61, [12, 2, 1, 3, 6], 0), (.aload_n 2, [], 0), (.aload_n 0, [], 0), (.iload_n 3, [], 0), (.iconst 1, [], 0), (.iadd, [], 0), (.iaload, [], 0), (.invokevirtual 64, [96, 2, 1, 3, 7], 0), (.if_icmp .eq 671, [1187, 1, 1, 1, 1], 0), (.iconst 0, [], 0), (.ireturn, [1], 0)]),
  (521, [(.aload_n 1, [], 0), (.aload_n 0, [], 0), (.iload_n 3, [], 0), (.iconst 1, [], 0), (.iadd, [], 0), (.iaload, [], 0), (.aload_n 0, [], 0), (.iload_n 3, [], 0), (.iconst 2, [], 0), (.iadd, [], 0), (.iaload, [], 0), (.invokevirtual 65, [13, 3, 1, 5, 6], 0), (.aload_n 2, [], 0), (.aload_n 0, [], 0), (.iload_n 3, [], 0), (.iconst 1, [], 0), (.iadd, [], 0), (.iaload, [], 0), (.aload_n 0, [], 0), (.iload_n 3, [], 0), (.iconst 2, [], 0), (.iadd, [], 0), (.iaload, [], 0), (.invokevirtual 68, [98, 3, 1, 4, 7], 0), (.if_icmp .eq 638, [1187, 1, 1, 1, 1], 0), (.iconst 0, [], 0), (.ireturn, [1], 0)]),
  (554, [(.aload_n 1, [], 0), (.aload_n 0, [], 0), (.iload_n 3, [], 0), (.iconst 1, [], 0), (.iadd, [], 0), (.iaload, [], 0), (.aload_n 0, [], 0), (.iload_n 3, [], 0), (.iconst 2, [], 0), (.iadd, [], 0), (.iaload, [], 0), (.invokevirtual 69, [14, 3, 1, 4, 6], 0), (.aload_n 2, [], 0), (.aload_n 0, [], 0), (.iload_n 3, [], 0), (.iconst 1, [], 0), (.iadd, [], 0), (.iaload, [], 0), (.aload_n 0, [], 0), (.iload_n 3, [], 0), (.iconst 2, [], 0), (.iadd, [], 0), (.iaload, [], 0), (.invokevirtual 72, [99, 3, 1, 7, 7], 0), (.if_icmp .eq 605, [1187, 1, 1, 1, 1], 0), (.iconst 0, [], 0), (.ireturn, [1], 0)]),
  (587, [(.aload_n 1, [], 0), (.aload_n 0, [], 0), (.iload_n 3, [], 0), (.iconst 1, [], 0), (.iadd, [], 0), (.iaload, [], 0), (.invokevirtual 73, [15, 2, 1, 3, 6], 0), (.aload_n 2, [], 0), (.aload_n 0, [], 0), (.iload_n 3, [], 0), (.iconst 1, [], 0), (.iadd, [], 0), (.iaload, [], 0), (.invokevirtual 76, [104, 2, 1, 2, 7], 0), (.if_icmp .eq 582, [1187, 1, 1, 1, 1], 0), (.iconst 0, [], 0), (.ireturn, [1], 0)]),
  (610, [(.aload_n 1, [], 0), (.aload_n 0, [], 0), (.iload_n 3, [], 0), (.iconst 1, [], 0), (.iadd, [], 0), (.iaload, [], 0), (.aload_n 0, [], 0), (.iload_n 3, [], 0), (.iconst 2, [], 0), (.iadd, [], 0), (.iaload, [], 0), (.invokevirtual 77, [16, 3, 1, 8, 6], 0), (.aload_n 2, [], 0), (.aload_n 0, [], 0), (.iload_n 3, [], 0), (.iconst 1, [], 0), (.iadd, [], 0), (.iaload, [], 0), (.aload_n 0, [], 0), (.iload_n 3, [], 0), (.iconst 2, [], 0), (.iadd, [], 0), (.iaload, [], 0), (.invokevirtual 80, [110, 3, 1, 6, 7], 0), (.if_icmp .eq 549, [1187, 1, 1, 1, 1], 0), (.iconst 0, [], 0), (.ireturn, [1], 0)]),
  (643, [(.aload_n 1, [], 0), (.aload_n 0, [], 0), (.iload_n 3, [], 0), (.iconst 1, [], 0), (.iadd, [], 0), (.iaload, [], 0), (.invokevirtual 81, [17, 2, 1, 6, 6], 0), (.aload_n 2, [], 0), (.aload_n 0, [], 0), (.iload_n 3, [], 0), (.iconst 1, [], 0), (.iadd, [], 0), (.iaload, [], 0), (.invokevirtual 84, [112, 2, 1, 2, 7], 0), (.if_icmp .eq 526, [1187, 1, 1, 1, 1], 0), (.iconst 0, [], 0), (.ireturn, [1], 0)]),
  (666, [(.aload_n 1, [], 0), (.aload_n 0, [], 0), (.iload_n 3, [], 0), (.iconst 1, [], 0), (.iadd, [], 0), (.iaload, [], 0), (.aload_n 0, [], 0), (.iload_n 3, [], 0), (.iconst 2, [], 0), (.iadd, [], 0), (.iaload, [], 0), (.invokevirtual 85, [18, 3, 1, 8, 6], 0), (.aload_n 2, [], 0), (.aload_n 0, [], 0), (.iload_n 3, [], 0), (.iconst 1, [], 0), (.iadd, [], 0), (.iaload, [], 0), (.aload_n 0, [], 0), (.iload_n 3, [], 0), (.iconst 2, [], 0), (.iadd, [], 0), (.iaload, [], 0), (.invokevirtual 88, [115, 3, 1, 6, 7], 0), (.if_icmp .eq 493, [1187, 1, 1, 1, 1], 0), (.iconst 0, [], 0), (.ireturn, [1], 0)]),
  (699, [(.aload_n 1, [], 0), (.aload_n 0, [], 0), (.iload_n 3, [], 0), (.iconst 1, [], 0), (.iadd, [], 0), (.iaload, [], 0), (.aload_n 0, [], 0), (.iload_n 3, [], 0), (.iconst 2, [], 0), (.iadd, [], 0), (.iaload, [], 0), (.invokevirtual 89, [19, 3, 1, 3, 6], 0), (.aload_n 2, [], 0), (.aload_n 0, [], 0), (.iload_n 3, [], 0), (.iconst 1, [], 0), (.iadd, [], 0), (.iaload, [], 0), (.aload_n 0, [], 0), (.iload_n 3, [], 0), (.iconst 2, [], 0), (.iadd, [], 0), (.iaload, [], 0), (.invokevirtual 92, [118, 3, 1, 3, 7], 0), (.if_icmp .eq 460, [1187, 1, 1, 1, 1], 0), (.iconst 0, [], 0), (.ireturn, [1], 0)]),
  (732, [(.aload_n 1, [], 0), (.aload_n 0, [], 0), (.iload_n 3, [], 0), (.iconst 1, [], 0), (.iadd, [], 0), (.iaload, [], 0), (.invokevirtual 93, [20, 2, 1, 3, 6], 0), (.aload_n 2, [], 0), (.aload_n 0, [], 0), (.iload_n 3, [], 0), (.iconst 1, [], 0), (.iadd, [], 0), (.iaload, [], 0), (.invokevirtual 96, [120, 2, 1, 2, 7], 0), (.if_icmp .eq 437, [1187, 1, 1, 1, 1], 0), (.iconst 0, [], 0), (.ireturn, [1], 0)]),
  (755, [(.aload_n 1, [], 0), (.aload_n 0, [], 0), (.iload_n 3, [], 0), (.iconst 1, [], 0), (.iadd, [], 0), (.iaload, [], 0), (.invokevirtual 97, [21, 2, 1, 3, 6], 0), (.aload_n 2, [], 0), (.aload_n 0, [], 0), (.iload_n 3, [], 0), (.iconst 1, [], 0), (.iadd, [], 0), (.iaload, [], 0), (.invokevirtual 100, [121, 2, 1, 2, 7], 0), (.if_icmp .eq 414, [1187, 1, 1, 1, 1], 0), (.iconst 0, [], 0), (.ireturn, [1], 0)]),
  (778, [(.aload_n 1, [], 0), (.aload_n 0, [], 0), (.iload_n 3, [], 0), (.iconst 1, [], 0), (.iadd, [], 0), (.iaload, [], 0), (.aload_n 0, [], 0), (.iload_n 3, [], 0), (.iconst 2, [], 0), (.iadd, [], 0), (.iaload, [], 0), (.aload_n 0, [], 0), (.iload_n 3, [], 0), (.iconst 3, [], 0), (.iadd, [], 0), (.iaload, [], 0), (.aload_n 0, [], 0), (.iload_n 3, [], 0), (.iconst 4, [], 0), (.iadd, [], 0), (.iaload, [], 0), (.aload_n 0, [], 0), (.iload_n 3, [], 0), (.iconst 5, [], 0), (.iadd, [], 0), (.iaload, [], 0), (.invokevirtual 101, [22, 6, 2, 8, 6], 0), (.aload_n 2, [], 0), (.aload_n 0, [], 0), (.iload_n 3, [], 0), (.iconst 1, [], 0), (.iadd, [], 0), (.iaload, [], 0), (.aload_n 0, [], 0), (.iload_n 3, [], 0), (.iconst 2, [], 0), (.iadd, [], 0), (.iaload, [], 0), (.aload_n 0, [], 0), (.iload_n 3, [], 0), (.iconst 3, [], 0), (.iadd, [], 0), (.iaload, [], 0), (.aload_n 0, [], 0), (.iload_n 3, [], 0), (.iconst 4, [], 0), (.iadd, [], 0), (.iaload, [], 0), (.aload_n 0, [], 0), (.iload_n 3, [], 0), (.iconst 5, [], 0), (.iadd, [], 0), (.iaload, [], 0), (.invokevirtual 105, [123, 6, 2, 17, 7], 0), (.lcmp, [], 0), (.ifCond .eq 350, [1187, 1, 1, 1, 1], 0), (.iconst 0, [], 0), (.ireturn, [1], 0)]),
  (842, [(.aload_n 1, [], 0), (.aload_n 0, [], 0), (.iload_n 3, [], 0), (.iconst 1, [], 0), (.iadd, [], 0), (.iaload, [], 0), (.invokevirtual 106, [23, 2, 1, 2, 6], 0), (.aload_n 2, [], 0), (.aload_n 0, [], 0), (.iload_n 3, [], 0), (.iconst 1, [], 0), (.iadd, [], 0), (.iaload, [], 0), (.invokevirtual 109, [124, 2, 1, 3, 7], 0), (.if_icmp .eq 327, [1187, 1, 1, 1, 1], 0), (.iconst 0, [], 0), (.ireturn, [1], 0)]),
  (865, [(.aload_n 1, [], 0), (.invokevirtual 110, [24, 1, 1, 2, 6], 0), (.aload_n 2, [], 0), (.invokevirtual 113, [125, 1, 1, 2, 7], 0), (.if_icmp .eq 314, [1187, 1, 1, 1, 1], 0), (.iconst 0, [], 0), (.ireturn, [1], 0)]),
  (878, [(.aload_n 1, [], 0), (.invokevirtual 114, [25, 1, 1, 4, 6], 0), (.aload_n 2, [], 0), (.invokevirtual 117, [128, 1, 1, 1, 7], 0), (.if_icmp .eq 301, [1187, 1, 1, 1, 1], 0), (.iconst 0, [], 0), (.ireturn, [1], 0)]),
  (891, [(.aload_n 1, [], 0), (.aload_n 0, [], 0), (.iload_n 3, [], 0), (.iconst 1, [], 0), (.iadd, [], 0), (.iaload, [], 0), (.aload_n 0, [], 0), (.iload_n 3, [], 0), (.iconst 2, [], 0), (.iadd, [], 0), (.iaload, [], 0), (.invokevirtual 118, [26, 3, 1, 6, 6], 0), (.aload_n 2, [], 0), (.aload_n 0, [], 0), (.iload_n 3, [], 0), (.iconst 1, [], 0), (.iadd, [], 0), (.iaload, [], 0), (.aload_n 0, [], 0), (.iload_n 3, [], 0), (.iconst 2, [], 0), (.iadd, [], 0), (.iaload, [], 0), (.invokevirtual 121, [129, 3, 1, 8, 7], 0), (.if_icmp .eq 268, [1187, 1, 1, 1, 1], 0), (.iconst 0, [], 0), (.ireturn, [1], 0)]),
  (924, [(.aload_n 1, [], 0), (.aload_n 0, [], 0), (.iload_n 3, [], 0), (.iconst 1, [], 0), (.iadd, [], 0), (.iaload, [], 0), (.aload_n 0, [], 0), (.iload_n 3, [], 0), (.iconst 2, [], 0), (.iadd, [], 0), (.iaload, [], 0), (.invokevirtual 122, [27, 3, 2, 3, 6], 0), (.aload_n 2, [], 0), (.aload_n 0, [], 0), (.iload_n 3, [], 0), (.iconst 1, [], 0), (.iadd, [], 0), (.iaload, [], 0), (.aload_n 0, [], 0), (.iload_n 3, [], 0), (.iconst 2, [], 0), (.iadd, [], 0), (.iaload, [], 0), (.invokevirtual 126, [130, 3, 2, 8, 7], 0), (.lcmp, [], 0), (.ifCond .eq 234, [1187, 1, 1, 1, 1], 0), (.iconst 0, [], 0), (.ireturn, [1], 0)]),
  (958, [(.aload_n 1, [], 0), (.aload_n 0, [], 0), (.iload_n 3, [], 0), (.iconst 1, [], 0), (.iadd, [], 0), (.iaload, [], 0), (.aload_n 0, [], 0), (.iload_n 3, [], 0), (.iconst 2, [], 0), (.iadd, [], 0), (.iaload, [], 0), (.invokevirtual 127, [28, 3, 1, 5, 6], 0), (.aload_n 2, [], 0), (.aload_n 0, [], 0), (.iload_n 3, [], 0), (.iconst 1, [], 0), (.iadd, [], 0), (.iaload, [], 0), (.aload_n 0, [], 0), (.iload_n 3, [], 0), (.iconst 2, [], 0), (.iadd, [], 0), (.iaload, [], 0), (.invokevirtual 130, [133, 3, 1, 3, 7], 0), (.if_icmp .eq 201, [1187, 1, 1, 1, 1], 0), (.iconst 0, [], 0), (.ireturn, [1], 0)]),
  (991, [(.aload_n 1, [], 0), (.aload_n 0, [], 0), (.iload_n 3, [], 0), (.iconst 1, [], 0), (.iadd, [], 0), (.iaload, [], 0), (.invokevirtual 131, [29, 2, 1, 8, 6], 0), (.aload_n 2, [], 0), (.aload_n 0, [], 0), (.iload_n 3, [], 0), (.iconst 1, [], 0), (.iadd, [], 0), (.iaload, [], 0), (.invokevirtual 134, [134, 2, 1, 7, 7], 0), (.if_icmp .eq 178, [1187, 1, 1, 1, 1], 0), (.iconst 0, [], 0), (.ireturn, [1], 0)]),
  (1014, [(.aload_n 1, [], 0), (.aload_n 0, [], 0), (.iload_n 3, [], 0), (.iconst 1, [], 0), (.iadd, [], 0), (.iaload, [], 0), (.aload_n 0, [], 0), (.iload_n 3, [], 0), (.iconst 2, [], 0), (.iadd, [], 0), (.iaload, [], 0), (.aload_n 0, [], 0), (.iload_n 3, [], 0), (.iconst 3, [], 0), (.iadd, [], 0), (.iaload, [], 0), (.aload_n 0, [], 0), (.iload_n 3, [], 0), (.iconst 4, [], 0), (.iadd, [], 0), (.iaload, [], 0), (.invokevirtual 135, [30, 5, 2, 8, 6], 0), (.aload_n 2, [], 0), (.aload_n 0, [], 0), (.iload_n 3, [], 0), (.iconst 1, [], 0), (.iadd, [], 0), (.iaload, [], 0), (.aload_n 0, [], 0), (.iload_n 3, [], 0), (.iconst 2, [], 0), (.iadd, [], 0), (.iaload, [], 0), (.aload_n 0, [], 0), (.iload_n 3, [], 0), (.iconst 3, [], 0), (.iadd, [], 0), (.iaload, [], 0), (.aload_n 0, [], 0), (.iload_n 3, [], 0), (.iconst 4, [], 0), (.iadd, [], 0), (.iaload, [], 0), (.invokevirtual 139, [135, 5, 2, 10, 7], 0), (.lcmp, [], 0), (.ifCond .eq 124, [1187, 1, 1, 1, 1], 0), (.iconst 0, [], 0), (.ireturn, [1], 0)]),
  (1068, [(.aload_n 1, [], 0), (.aload_n 0, [], 0), (.iload_n 3, [], 0), (.iconst 1, [], 0), (.iadd, [], 0), (.iaload, [], 0), (.aload_n 0, [], 0), (.iload_n 3, [], 0), (.iconst 2, [], 0), (.iadd, [], 0), (.iaload, [], 0), (.invokevirtual 140, [31, 3, 1, 4, 6], 0), (.aload_n 2, [], 0), (.aload_n 0, [], 0), (.iload_n 3, [], 0), (.iconst 1, [], 0), (.iadd, [], 0), (.iaload, [], 0), (.aload_n 0, [], 0), (.iload_n 3, [], 0), (.iconst 2, [], 0), (.iadd, [], 0), (.iaload, [], 0), (.invokevirtual 143, [137, 3, 1, 3, 7], 0), (.if_icmp .eq 91, [1187, 1, 1, 1, 1], 0), (.iconst 0, [], 0), (.ireturn, [1], 0)]),
  (1101, [(.aload_n 1, [], 0), (.aload_n 0, [], 0), (.iload_n 3, [], 0), (.iconst 1, [], 0), (.iadd, [], 0), (.iaload, [], 0), (.invokevirtual 144, [32, 2, 1, 5, 6], 0), (.aload_n 2, [], 0), (.aload_n 0, [], 0), (.iload_n 3, [], 0), (.iconst 1, [], 0), (.iadd, [], 0), (.iaload, [], 0), (.invokevirtual 147, [139, 2, 1, 2, 7], 0), (.if_icmp .eq 68, [1187, 1, 1, 1, 1], 0), (.iconst 0, [], 0), (.ireturn, [1], 0)]),
  (1124, [(.aload_n 1, [], 0), (.invokevirtual 148, [33, 1, 1, 1, 6], 0), (.aload_n 2, [], 0), (.invokevirtual 151, [140, 1, 1, 2, 7], 0), (.if_icmp .eq 55, [1187, 1, 1, 1, 1], 0), (.iconst 0, [], 0), (.ireturn, [1], 0)]),
  (1137, [(.aload_n 1, [], 0), (.invokevirtual 152, [34, 1, 1, 2, 6], 0), (.aload_n 2, [], 0), (.invokevirtual 155, [141, 1, 1, 2, 7], 0), (.if_icmp .eq 42, [1187, 1, 1, 1, 1], 0), (.iconst 0, [], 0), (.ireturn, [1], 0)]),
  (1150, [(.aload_n 1, [], 0), (.aload_n 0, [], 0), (.iload_n 3, [], 0), (.iconst 1, [], 0), (.iadd, [], 0), (.iaload, [], 0), (.invokevirtual 156, [35, 2, 1, 2, 6], 0), (.aload_n 2, [], 0), (.aload_n 0, [], 0), (.iload_n 3, [], 0), (.iconst 1, [], 0), (.iadd, [], 0), (.iaload, [], 0), (.invokevirtual 159, [143, 2, 1, 2, 7], 0), (.if_icmp .eq 19, [1187, 1, 1, 1, 1], 0), (.iconst 0, [], 0), (.ireturn, [1], 0)]),
  (1173, [(.aload_n 1, [], 0), (.invokevirtual 160, [36, 1, 2, 5, 6], 0), (.aload_n 2, [], 0), (.invokevirtual 164, [146, 1, 2, 3, 7], 0), (.lcmp, [], 0), (.ifCond .eq 5, [1187, 1, 1, 1, 1], 0), (.iconst 0, [], 0), (.ireturn, [1], 0)]),
  (1187, [(.iinc 3 6, [], 0), (.goto (-1172), [18, 1, 1, 1, 1], 0)]),
  (1193, [(.iconst 1, [], 0), (.ireturn, [1], 0)])]
/-- MindReaders.<init>()V -/
def zc_1 : List (Nat × List zE) := [(0, [(.aload_n 0, [], 0), (.invokespecial 3, [], 0), (.aload_n 0, [], 0), (.new 9, [5, 2, 2, 2, 2], 0), (.dup, [], 0), (.invokespecial 11, [187, 1, 0, 1, 5], 0), (.putfield 12, [6, 0, 2], 0), (.aload_n 0, [], 0), (.new 16, [3, 2, 0], 0), (.dup, [], 0), (.bipush 8, [], 0), (.invokespecial 18, [170, 2, 0, 2, 3], 0), (.putfield 21, [6, 1, 2], 0), (.aload_n 0, [], 0), (.iconst 4, [], 0), (.anewarray 25, [102], 0), (.putfield 27, [6, 2, 2], 0), (.aload_n 0, [], 0), (.new 16, [3, 2, 0], 0), (.dup, [], 0), (.bipush 48, [], 0), (.invokespecial 18, [170, 2, 0, 2, 3], 0), (.putfield 31, [6, 4, 2], 0), (.aload_n 0, [], 0), (.new 34, [1, 2, 2], 0), (.dup, [], 0), (.invokespecial 36, [158, 1, 0, 1, 1], 0), (.putfield 37, [6, 5, 2], 0), (.aload_n 0, [], 0), (.new 16, [3, 2, 0], 0), (.dup, [], 0), (.bipush 8, [], 0), (.invokespecial 18, [170, 2, 0, 2, 3], 0), (.putfield 41, [6, 6, 2], 0), (.aload_n 0, [], 0), (.new 34, [1, 2, 2], 0), (.dup, [], 0), (.invokespecial 36, [158, 1, 0, 1, 1], 0), (.putfield 44, [6, 7, 2], 0), (.aload_n 0, [], 0), (.new 16, [3, 2, 0], 0), (.dup, [], 0), (.bipush 48, [], 0), (.invokespecial 18, [170, 2, 0, 2, 3], 0), (.putfield 47, [6, 9, 2], 0), (.aload_n 0, [], 0), (.new 16, [3, 2, 0], 0), (.dup, [], 0), (.bipush 96, [], 0), (.invokespecial 18, [170, 2, 0, 2, 3], 0), (.putfield 50, [6, 10, 2], 0), (.aload_n 0, [], 0), (.new 16, [3, 2, 0], 0), (.dup, [], 0), (.bipush 8, [], 0), (.invokespecial 18, [170, 2, 0, 2, 3], 0), (.putfield 53, [6, 11, 2], 0), (.aload_n 0, [], 0), (.new 56, [4, 2, 2], 0), (.dup, [], 0), (.bipush 8, [], 0), (.bipush 10, [], 0), (.invokespecial 58, [185, 3, 0, 4, 4], 0), (.putfield 61, [6, 12, 2], 0), (.aload_n 0, [], 0), (.new 65, [2, 2, 0], 0), (.dup, [], 0), (.invokespecial 67, [165, 1, 0, 1, 2], 0), (.putfield 68, [6, 13, 2], 0), (.iconst 0, [], 0), (.istore_n 1, [], 0), (.nop, [151, 1, 1], 0)]),
  (151, [(.iload_n 1, [], 0), (.aload_n 0, [], 0), (.getfield 27, [6, 2, 2], 0), (.arraylength, [], 0), (.if_icmp .ge 22, [179], 0), (.aload_n 0, [], 0), (.getfield 27, [6, 2, 2], 0), (.iload_n 1, [], 0), (.new 25, [0, 2, 2, 0], 0), (.dup, [], 0), (.invokespecial 72, [147, 1, 0, 1, 0], 0), (.aastore, [102, 0], 0), (.iinc 1 1, [], 0), (.goto (-25), [151, 1, 1], 0)]),
  (179, [(.return_, [], 0)])]
/-- MindReaders.letters(J)I -/
def zc_2 : List (Nat × List zE) := [(0, [(.lload_n 1, [], 0), (.invokestatic 73, [41, 1, 1, 5], 0), (.istore_n 3, [], 0), (.iload_n 3, [], 0), (.iconst (-1), [], 0), (.if_icmp .ne 6, [13, 1, 1, 0, 1], 0), (.bipush (-102), [], 0), (.ireturn, [0], 0)]),
  (13, [(.aload_n 0, [], 0), (.getfield 31, [6, 4, 2], 0), (.invokevirtual 77, [171, 1, 1, 1, 3], 0), (.iload_n 3, [], 0), (.iadd, [], 0), (.bipush 48, [], 0), (.if_icmp .le 6, [30, 1, 1, 0, 1], 0), (.bipush (-104), [], 0), (.ireturn, [0], 0)]),
  (30, [(.iconst 0, [], 0), (.istore 4, [], 0), (.nop, [33, 1, 1, 0, 1, 1], 0)]),
  (33, [(.iload 4, [], 0), (.iload_n 3, [], 0), (.if_icmp .ge 22, [58, 1], 0), (.aload_n 0, [], 0), (.getfield 31, [6, 4, 2], 0), (.lload_n 1, [], 0), (.iload 4, [], 0), (.invokestatic 81, [40, 2, 1, 3], 0), (.invokevirtual 85, [174, 2, 0, 2, 3], 0), (.iinc 4 1, [], 0), (.goto (-22), [33, 1, 1, 0, 1, 1], 0)]),
  (58, [(.aload_n 0, [], 0), (.getfield 31, [6, 4, 2], 0), (.invokevirtual 77, [171, 1, 1, 1, 3], 0), (.ireturn, [0], 0)])]
/-- MindReaders.blank()I -/
def zc_3 : List (Nat × List zE) := [(0, [(.aload_n 0, [], 0), (.getfield 31, [6, 4, 2], 0), (.invokevirtual 77, [171, 1, 1, 1, 3], 0), (.istore_n 1, [], 0), (.aload_n 0, [], 0), (.getfield 31, [6, 4, 2], 0), (.invokevirtual 88, [176, 1, 0, 1, 3], 0), (.iload_n 1, [], 0), (.ireturn, [0], 0)])]
/-- MindReaders.fault()I -/
def zc_4 : List (Nat × List zE) := [(0, [(.aload_n 0, [], 0), (.invokevirtual 91, [43, 1, 1, 5, 6], 0), (.ireturn, [0], 0)])]
/-- MindReaders.code()I -/
def zc_5 : List (Nat × List zE) := [(0, [(.aload_n 0, [], 0), (.getfield 31, [6, 4, 2], 0), (.aload_n 0, [], 0), (.getfield 31, [6, 4, 2], 0), (.invokevirtual 77, [171, 1, 1, 1, 3], 0), (.iconst 1, [], 0), (.isub, [], 0), (.invokevirtual 94, [172, 2, 1, 2, 3], 0), (.invokestatic 98, [42, 1, 1, 1], 0), (.iconst (-1), [], 0), (.if_icmp .eq 7, [27, 1], 0), (.iconst 1, [], 0), (.goto 4, [28, 1], 0)]),
  (27, [(.iconst 0, [], 0), (.nop, [28, 1], 0)]),
  (28, [(.istore_n 1, [], 0), (.iload_n 1, [], 0), (.ifCond .eq 17, [47], 0), (.aload_n 0, [], 0), (.invokevirtual 91, [43, 1, 1, 5, 6], 0), (.aload_n 0, [], 0), (.getfield 31, [6, 4, 2], 0), (.invokevirtual 77, [171, 1, 1, 1, 3], 0), (.if_icmp .ge 6, [50, 1], 0), (.nop, [47], 0)]),
  (47, [(.bipush (-103), [], 0), (.ireturn, [0], 0)]),
  (50, [(.aload_n 0, [], 0), (.getfield 101, [6, 3, 0], 0), (.ifCond .lt 15, [69], 0), (.aload_n 0, [], 0), (.getfield 101, [6, 3, 0], 0), (.aload_n 0, [], 0), (.getfield 27, [6, 2, 2], 0), (.arraylength, [], 0), (.if_icmp .lt 6, [72, 1], 0), (.nop, [69], 0)]),
  (69, [(.bipush (-104), [], 0), (.ireturn, [0], 0)]),
  (72, [(.aload_n 0, [], 0), (.getfield 27, [6, 2, 2], 0), (.aload_n 0, [], 0), (.getfield 101, [6, 3, 0], 0), (.aaload, [102], 0), (.astore_n 2, [], 0), (.aload_n 2, [], 0), (.ifnonnull 6, [89, 1, 0, 1], 0), (.bipush (-104), [], 0), (.ireturn, [0], 0)]),
  (89, [(.aload_n 2, [], 0), (.aload_n 0, [], 0), (.getfield 31, [6, 4, 2], 0), (.invokevirtual 105, [151, 2, 0, 4, 0], 0), (.aload_n 2, [], 0), (.aload_n 0, [], 0), (.getfield 12, [6, 0, 2], 0), (.invokevirtual 109, [152, 2, 0, 3, 0], 0), (.aload_n 0, [], 0), (.getfield 31, [6, 4, 2], 0), (.invokevirtual 88, [176, 1, 0, 1, 3], 0), (.aload_n 0, [], 0), (.dup, [], 0), (.getfield 101, [6, 3, 0], 0), (.iconst 1, [], 0), (.iadd, [], 0), (.putfield 101, [6, 3, 0], 0), (.aload_n 0, [], 0), (.getfield 101, [6, 3, 0], 0), (.iconst 1, [], 0), (.isub, [], 0), (.ireturn, [0], 0)])]
/-- MindReaders.signal(IIII)I -/
def zc_6 : List (Nat × List zE) := [(0, [(.iload_n 1, [], 0), (.ifCond .lt 8, [9], 0), (.iload_n 1, [], 0), (.iconst 4, [], 0), (.if_icmp .le 6, [12, 1, 1, 1, 1, 1], 0), (.nop, [9], 0)]),
  (9, [(.bipush (-102), [], 0), (.ireturn, [0], 0)]),
  (12, [(.aload_n 0, [], 0), (.getfield 12, [6, 0, 2], 0), (.iload_n 1, [], 0), (.iload_n 2, [], 0), (.invokevirtual 113, [195, 3, 1, 3, 5], 0), (.ifCond .ne 6, [27, 1, 1, 1, 1, 1], 0), (.bipush (-101), [], 0), (.ireturn, [0], 0)]),
  (27, [(.iload_n 3, [], 0), (.iconst 1, [], 0), (.if_icmp .lt 21, [50], 0), (.iload_n 3, [], 0), (.bipush 9, [], 0), (.if_icmp .gt 15, [50], 0), (.iload 4, [], 0), (.ifCond .lt 10, [50], 0), (.iload 4, [], 0), (.bipush 9, [], 0), (.if_icmp .le 6, [53, 1, 1, 1, 1, 1], 0), (.nop, [50], 0)]),
  (50, [(.bipush (-102), [], 0), (.ireturn, [0], 0)]),
  (53, [(.aload_n 0, [], 0), (.getfield 12, [6, 0, 2], 0), (.invokevirtual 117, [188, 1, 1, 1, 5], 0), (.bipush 8, [], 0), (.if_icmp .lt 6, [68, 1, 1, 1, 1, 1], 0), (.bipush (-104), [], 0), (.ireturn, [0], 0)]),
  (68, [(.aload_n 0, [], 0), (.getfield 12, [6, 0, 2], 0), (.iload_n 1, [], 0), (.iload_n 2, [], 0), (.iload_n 3, [], 0), (.iload 4, [], 0), (.invokevirtual 120, [190, 5, 0, 5, 5], 0), (.iconst 0, [], 0), (.istore 5, [], 0), (.nop, [83, 1, 0, 0, 0, 0, 1], 0)]),
  (83, [(.iload 5, [], 0), (.aload_n 0, [], 0), (.getfield 101, [6, 3, 0], 0), (.if_icmp .ge 31, [120, 1], 0), (.aload_n 0, [], 0), (.iload 5, [], 0), (.invokevirtual 124, [49, 2, 3, 2, 6], 0), (.astore 6, [], 0), (.aload 6, [], 0), (.ifnull 12, [114, 1, 0, 0, 0, 0, 1], 0), (.aload 6, [], 0), (.aload_n 0, [], 0), (.getfield 12, [6, 0, 2], 0), (.invokevirtual 109, [152, 2, 0, 3, 0], 0), (.nop, [114, 1, 0, 0, 0, 0, 1], 0)]),
  (114, [(.iinc 5 1, [], 0), (.goto (-34), [83, 1, 0, 0, 0, 0, 1], 0)]),
  (120, [(.aload_n 0, [], 0), (.getfield 12, [6, 0, 2], 0), (.invokevirtual 117, [188, 1, 1, 1, 5], 0), (.iconst 1, [], 0), (.isub, [], 0), (.ireturn, [0], 0)])]
/-- MindReaders.as(II)I -/
def zc_7 : List (Nat × List zE) := [(0, [(.aload_n 0, [], 0), (.getfield 12, [6, 0, 2], 0), (.iload_n 1, [], 0), (.invokevirtual 128, [189, 2, 1, 2, 5], 0), (.ifCond .ne 6, [14, 1, 1, 1], 0), (.bipush (-101), [], 0), (.ireturn, [0], 0)]),
  (14, [(.iload_n 2, [], 0), (.ifCond .lt 8, [23], 0), (.iload_n 2, [], 0), (.iconst 4, [], 0), (.if_icmp .le 6, [26, 1, 1, 1], 0), (.nop, [23], 0)]),
  (23, [(.bipush (-102), [], 0), (.ireturn, [0], 0)]),
  (26, [(.aload_n 0, [], 0), (.getfield 12, [6, 0, 2], 0), (.iload_n 1, [], 0), (.invokevirtual 132, [191, 2, 1, 3, 5], 0), (.istore_n 3, [], 0), (.iload_n 2, [], 0), (.iload_n 3, [], 0), (.if_icmp .eq 17, [54, 0, 1], 0), (.iload_n 2, [], 0), (.ifCond .eq 13, [54, 0, 1], 0), (.iload_n 2, [], 0), (.iconst 1, [], 0), (.if_icmp .ne 12, [58, 0, 1], 0), (.iload_n 3, [], 0), (.iconst 2, [], 0), (.if_icmp .ne 7, [58, 0, 1], 0), (.nop, [54, 0, 1], 0)]),
  (54, [(.iconst 1, [], 0), (.goto 4, [59, 0, 1], 0)]),
  (58, [(.iconst 0, [], 0), (.nop, [59, 0, 1], 0)]),
  (59, [(.istore 4, [], 0), (.iload 4, [], 0), (.ifCond .eq 7, [70], 0), (.iload_n 1, [], 0), (.goto 4, [71], 0)]),
  (70, [(.iconst (-1), [], 0), (.nop, [71], 0)]),
  (71, [(.ireturn, [0], 0)])]
/-- MindReaders.about(II)I -/
def zc_8 : List (Nat × List zE) := [(0, [(.aload_n 0, [], 0), (.getfield 12, [6, 0, 2], 0), (.iload_n 1, [], 0), (.invokevirtual 128, [189, 2, 1, 2, 5], 0), (.ifCond .ne 6, [14, 1, 1, 1], 0), (.bipush (-101), [], 0), (.ireturn, [0], 0)]),
  (14, [(.iload_n 2, [], 0), (.tableswitch 65 0 3 #[29, 38, 47, 56], [2, 80, 1, 1, 44, 53, 62, 71], 29)]),
  (44, [(.aload_n 0, [], 0), (.getfield 12, [6, 0, 2], 0), (.iload_n 1, [], 0), (.invokevirtual 132, [191, 2, 1, 3, 5], 0), (.ireturn, [0], 0)]),
  (53, [(.aload_n 0, [], 0), (.getfield 12, [6, 0, 2], 0), (.iload_n 1, [], 0), (.invokevirtual 135, [192, 2, 1, 2, 5], 0), (.ireturn, [0], 0)]),
  (62, [(.aload_n 0, [], 0), (.getfield 12, [6, 0, 2], 0), (.iload_n 1, [], 0), (.invokevirtual 138, [193, 2, 1, 3, 5], 0), (.ireturn, [0], 0)]),
  (71, [(.aload_n 0, [], 0), (.getfield 12, [6, 0, 2], 0), (.iload_n 1, [], 0), (.invokevirtual 141, [194, 2, 1, 3, 5], 0), (.ireturn, [0], 0)]),
  (80, [(.bipush (-102), [], 0), (.ireturn, [0], 0)])]
/-- MindReaders.thing(I)I -/
def zc_9 : List (Nat × List zE) := [(0, [(.iload_n 1, [], 0), (.invokestatic 144, [46, 1, 1, 1], 0), (.ifCond .ne 6, [10, 1, 1], 0), (.bipush (-102), [], 0), (.ireturn, [0], 0)]),
  (10, [(.aload_n 0, [], 0), (.getfield 21, [6, 1, 2], 0), (.invokevirtual 77, [171, 1, 1, 1, 3], 0), (.bipush 8, [], 0), (.if_icmp .lt 6, [25, 1, 1], 0), (.bipush (-104), [], 0), (.ireturn, [0], 0)]),
  (25, [(.aload_n 0, [], 0), (.getfield 21, [6, 1, 2], 0), (.iload_n 1, [], 0), (.invokevirtual 85, [174, 2, 0, 2, 3], 0), (.aload_n 0, [], 0), (.getfield 21, [6, 1, 2], 0), (.invokevirtual 77, [171, 1, 1, 1, 3], 0), (.iconst 1, [], 0), (.isub, [], 0), (.ireturn, [0], 0)])]
/-- MindReaders.weigh(II)I -/
def zc_10 : List (Nat × List zE) := [(0, [(.aload_n 0, [], 0), (.iload_n 1, [], 0), (.invokevirtual 147, [48, 2, 1, 2, 6], 0), (.ifCond .ne 6, [11, 1, 1, 1], 0), (.bipush (-101), [], 0), (.ireturn, [0], 0)]),
  (11, [(.iload_n 2, [], 0), (.invokestatic 144, [46, 1, 1, 1], 0), (.ifCond .ne 6, [21, 1, 1, 1], 0), (.bipush (-102), [], 0), (.ireturn, [0], 0)]),
  (21, [(.aload_n 0, [], 0), (.getfield 21, [6, 1, 2], 0), (.iload_n 1, [], 0), (.invokevirtual 94, [172, 2, 1, 2, 3], 0), (.istore_n 3, [], 0), (.aload_n 0, [], 0), (.getfield 21, [6, 1, 2], 0), (.iload_n 1, [], 0), (.iload_n 2, [], 0), (.invokevirtual 150, [173, 3, 0, 3, 3], 0), (.iload_n 3, [], 0), (.ireturn, [0], 0)])]
/-- MindReaders.speech(III)I -/
def zc_11 : List (Nat × List zE) := [(0, [(.aload_n 0, [], 0), (.iload_n 1, [], 0), (.invokevirtual 124, [49, 2, 3, 2, 6], 0), (.astore 4, [], 0), (.aload 4, [], 0), (.ifnull 16, [25], 0), (.iload_n 2, [], 0), (.ifCond .lt 12, [25], 0), (.iload_n 2, [], 0), (.aload 4, [], 0), (.invokevirtual 153, [148, 1, 1, 1, 0], 0), (.if_icmp .lt 6, [28, 1, 0, 1, 1, 1], 0), (.nop, [25], 0)]),
  (25, [(.bipush (-101), [], 0), (.ireturn, [0], 0)]),
  (28, [(.iload_n 3, [], 0), (.ifCond .ne 13, [42, 1, 0, 1, 1, 1], 0), (.aload 4, [], 0), (.iload_n 2, [], 0), (.invokevirtual 154, [149, 2, 3, 2, 0], 0), (.invokevirtual 77, [171, 1, 1, 1, 3], 0), (.ireturn, [0], 0)]),
  (42, [(.iload_n 3, [], 0), (.iconst 1, [], 0), (.if_icmp .lt 21, [65, 1, 0, 1, 1, 1], 0), (.iload_n 3, [], 0), (.iconst 5, [], 0), (.if_icmp .gt 16, [65, 1, 0, 1, 1, 1], 0), (.aload 4, [], 0), (.iload_n 2, [], 0), (.invokevirtual 154, [149, 2, 3, 2, 0], 0), (.iload_n 3, [], 0), (.iconst 1, [], 0), (.isub, [], 0), (.invokevirtual 94, [172, 2, 1, 2, 3], 0), (.ireturn, [0], 0)]),
  (65, [(.iload_n 3, [], 0), (.bipush 10, [], 0), (.if_icmp .ne 13, [81, 1, 0, 1, 1, 1], 0), (.aload 4, [], 0), (.iload_n 2, [], 0), (.invokevirtual 158, [150, 2, 3, 2, 0], 0), (.invokevirtual 77, [171, 1, 1, 1, 3], 0), (.ireturn, [0], 0)]),
  (81, [(.iload_n 3, [], 0), (.bipush 10, [], 0), (.if_icmp .le 23, [107, 1, 0, 1, 1, 1], 0), (.iload_n 3, [], 0), (.bipush 20, [], 0), (.if_icmp .gt 17, [107, 1, 0, 1, 1, 1], 0), (.aload 4, [], 0), (.iload_n 2, [], 0), (.invokevirtual 158, [150, 2, 3, 2, 0], 0), (.iload_n 3, [], 0), (.bipush 11, [], 0), (.isub, [], 0), (.invokevirtual 94, [172, 2, 1, 2, 3], 0), (.ireturn, [0], 0)]),
  (107, [(.iload_n 3, [], 0), (.bipush 30, [], 0), (.if_icmp .ne 13, [123], 0), (.aload_n 0, [], 0), (.aload 4, [], 0), (.iload_n 2, [], 0), (.invokevirtual 161, [51, 3, 1, 3, 6], 0), (.goto 5, [125], 0)]),
  (123, [(.bipush (-102), [], 0), (.nop, [125], 0)]),
  (125, [(.ireturn, [0], 0)])]
/-- MindReaders.means(I)I -/
def zc_12 : List (Nat × List zE) := [(0, [(.aload_n 0, [], 0), (.iload_n 1, [], 0), (.invokevirtual 124, [49, 2, 3, 2, 6], 0), (.astore_n 2, [], 0), (.aload_n 2, [], 0), (.ifnonnull 6, [13, 1, 0, 1], 0), (.bipush (-101), [], 0), (.ireturn, [0], 0)]),
  (13, [(.aload_n 0, [], 0), (.invokevirtual 165, [45, 1, 1, 1, 6], 0), (.ifCond .eq 14, [31], 0), (.aload_n 2, [], 0), (.aload_n 0, [], 0), (.getfield 50, [6, 10, 2], 0), (.invokevirtual 169, [153, 2, 1, 3, 0], 0), (.goto 5, [33], 0)]),
  (31, [(.bipush (-103), [], 0), (.nop, [33], 0)]),
  (33, [(.ireturn, [0], 0)])]
/-- MindReaders.clear(II)I -/
def zc_13 : List (Nat × List zE) := [(0, [(.aload_n 0, [], 0), (.iload_n 1, [], 0), (.invokevirtual 124, [49, 2, 3, 2, 6], 0), (.astore_n 3, [], 0), (.aload_n 3, [], 0), (.ifnonnull 6, [13, 0, 0, 1, 1], 0), (.bipush (-101), [], 0), (.ireturn, [0], 0)]),
  (13, [(.iload_n 2, [], 0), (.ifCond .lt 8, [22], 0), (.iload_n 2, [], 0), (.iconst 2, [], 0), (.if_icmp .le 6, [25, 0, 0, 1, 1], 0), (.nop, [22], 0)]),
  (22, [(.bipush (-102), [], 0), (.ireturn, [0], 0)]),
  (25, [(.aload_n 3, [], 0), (.invokevirtual 173, [154, 1, 1, 3, 0], 0), (.istore 4, [], 0), (.iload_n 2, [], 0), (.ifCond .ne 15, [47, 0, 0, 1, 0, 1], 0), (.iload 4, [], 0), (.iconst (-1), [], 0), (.if_icmp .ne 7, [45], 0), (.iconst 1, [], 0), (.goto 4, [46], 0)]),
  (45, [(.iconst 0, [], 0), (.nop, [46], 0)]),
  (46, [(.ireturn, [0], 0)]),
  (47, [(.iload 4, [], 0), (.iload_n 2, [], 0), (.iconst 1, [], 0), (.isub, [], 0), (.invokestatic 176, [52, 2, 1, 2], 0), (.ireturn, [0], 0)])]
/-- MindReaders.starts(II)I -/
def zc_14 : List (Nat × List zE) := [(0, [(.aload_n 0, [], 0), (.iload_n 1, [], 0), (.invokevirtual 124, [49, 2, 3, 2, 6], 0), (.astore_n 3, [], 0), (.aload_n 3, [], 0), (.ifnonnull 6, [13, 0, 0, 1, 1], 0), (.bipush (-101), [], 0), (.ireturn, [0], 0)]),
  (13, [(.iload_n 2, [], 0), (.ifCond .lt 8, [22], 0), (.iload_n 2, [], 0), (.iconst 1, [], 0), (.if_icmp .le 6, [25, 0, 0, 1, 1], 0), (.nop, [22], 0)]),
  (22, [(.bipush (-102), [], 0), (.ireturn, [0], 0)]),
  (25, [(.aload_n 3, [], 0), (.invokevirtual 180, [155, 1, 1, 3, 0], 0), (.iload_n 2, [], 0), (.invokestatic 176, [52, 2, 1, 2], 0), (.ireturn, [0], 0)])]
/-- MindReaders.twice(I)I -/
def zc_15 : List (Nat × List zE) := [(0, [(.aload_n 0, [], 0), (.iload_n 1, [], 0), (.invokevirtual 124, [49, 2, 3, 2, 6], 0), (.astore_n 2, [], 0), (.aload_n 2, [], 0), (.ifnonnull 8, [15, 1, 0, 1], 0), (.bipush (-101), [], 0), (.goto 11, [23], 0)]),
  (15, [(.aload_n 0, [], 0), (.getfield 68, [6, 13, 2], 0), (.aload_n 2, [], 0), (.invokevirtual 183, [166, 2, 1, 4, 2], 0), (.nop, [23], 0)]),
  (23, [(.ireturn, [0], 0)])]
/-- MindReaders.mean(II)I -/
def zc_16 : List (Nat × List zE) := [(0, [(.aload_n 0, [], 0), (.iload_n 1, [], 0), (.invokevirtual 124, [49, 2, 3, 2, 6], 0), (.astore_n 3, [], 0), (.aload_n 3, [], 0), (.ifnonnull 6, [13, 1, 0, 1, 1], 0), (.bipush (-101), [], 0), (.ireturn, [0], 0)]),
  (13, [(.iload_n 2, [], 0), (.invokestatic 187, [47, 1, 1, 1], 0), (.ifCond .ne 6, [23, 1, 0, 1, 1], 0), (.bipush (-102), [], 0), (.ireturn, [0], 0)]),
  (23, [(.aload_n 0, [], 0), (.aload_n 3, [], 0), (.invokevirtual 190, [50, 2, 1, 2, 6], 0), (.istore 4, [], 0), (.iload 4, [], 0), (.ifCond .ne 6, [38, 1, 0, 1, 1, 1], 0), (.bipush (-103), [], 0), (.ireturn, [0], 0)]),
  (38, [(.lconst 0, [], 0), (.lstore 5, [], 0), (.iconst 0, [], 0), (.istore 7, [], 0), (.nop, [44, 1, 0, 1, 1, 1, 1, 0, 1], 0)]),
  (44, [(.iload 7, [], 0), (.iload 4, [], 0), (.if_icmp .ge 32, [80, 1, 0, 1, 0, 1, 1], 0), (.lload 5, [], 0), (.aload_n 0, [], 0), (.getfield 21, [6, 1, 2], 0), (.iload 7, [], 0), (.invokevirtual 94, [172, 2, 1, 2, 3], 0), (.aload_n 0, [], 0), (.aload_n 3, [], 0), (.iload 7, [], 0), (.invokevirtual 161, [51, 3, 1, 3, 6], 0), (.imul, [], 0), (.i2l, [], 0), (.ladd, [], 0), (.lstore 5, [], 0), (.iinc 7 1, [], 0), (.goto (-33), [44, 1, 0, 1, 1, 1, 1, 0, 1], 0)]),
  (80, [(.lload 5, [], 0), (.aload_n 0, [], 0), (.getfield 21, [6, 1, 2], 0), (.iload 4, [], 0), (.invokevirtual 193, [182, 2, 1, 4, 3], 0), (.i2l, [], 0), (.iload_n 2, [], 0), (.invokestatic 196, [64, 3, 2, 12], 0), (.l2i, [], 0), (.ireturn, [0], 0)])]
/-- MindReaders.oddness(I)I -/
def zc_17 : List (Nat × List zE) := [(0, [(.aload_n 0, [], 0), (.iload_n 1, [], 0), (.invokevirtual 124, [49, 2, 3, 2, 6], 0), (.astore_n 2, [], 0), (.aload_n 2, [], 0), (.ifnonnull 6, [13, 1, 0, 1], 0), (.bipush (-101), [], 0), (.ireturn, [0], 0)]),
  (13, [(.aload_n 0, [], 0), (.aload_n 2, [], 0), (.invokevirtual 190, [50, 2, 1, 2, 6], 0), (.istore_n 3, [], 0), (.iconst 0, [], 0), (.istore 4, [], 0), (.iconst 0, [], 0), (.istore 5, [], 0), (.nop, [25, 1, 0, 1, 1, 1, 1], 0)]),
  (25, [(.iload 5, [], 0), (.iload_n 3, [], 0), (.if_icmp .ge 37, [65, 0, 0, 0, 0, 1], 0), (.iload 4, [], 0), (.aload_n 0, [], 0), (.getfield 21, [6, 1, 2], 0), (.iload 5, [], 0), (.invokevirtual 94, [172, 2, 1, 2, 3], 0), (.aload_n 0, [], 0), (.getfield 12, [6, 0, 2], 0), (.aload_n 2, [], 0), (.iload 5, [], 0), (.invokevirtual 154, [149, 2, 3, 2, 0], 0), (.invokevirtual 200, [197, 2, 1, 4, 5], 0), (.imul, [], 0), (.iadd, [], 0), (.istore 4, [], 0), (.iinc 5 1, [], 0), (.goto (-37), [25, 1, 0, 1, 1, 1, 1], 0)]),
  (65, [(.iload 4, [], 0), (.ireturn, [0], 0)])]
/-- MindReaders.dealt(II)I -/
def zc_18 : List (Nat × List zE) := [(0, [(.aload_n 0, [], 0), (.iload_n 1, [], 0), (.invokevirtual 124, [49, 2, 3, 2, 6], 0), (.astore_n 3, [], 0), (.aload_n 3, [], 0), (.ifnonnull 6, [13, 1, 0, 1, 1], 0), (.bipush (-101), [], 0), (.ireturn, [0], 0)]),
  (13, [(.iload_n 2, [], 0), (.invokestatic 187, [47, 1, 1, 1], 0), (.ifCond .ne 18, [35, 1, 0, 1, 1], 0), (.iload_n 2, [], 0), (.bipush 10, [], 0), (.if_icmp .lt 9, [32], 0), (.iload_n 2, [], 0), (.bipush 18, [], 0), (.if_icmp .lt 6, [35, 1, 0, 1, 1], 0), (.nop, [32], 0)]),
  (32, [(.bipush (-102), [], 0), (.ireturn, [0], 0)]),
  (35, [(.aload_n 0, [], 0), (.aload_n 3, [], 0), (.invokevirtual 190, [50, 2, 1, 2, 6], 0), (.istore 4, [], 0), (.iload 4, [], 0), (.ifCond .ne 6, [50, 1, 0, 1, 1, 1], 0), (.bipush (-103), [], 0), (.ireturn, [0], 0)]),
  (50, [(.iload_n 2, [], 0), (.bipush 10, [], 0), (.if_icmp .lt 13, [66, 1, 0, 1, 1, 1], 0), (.aload_n 0, [], 0), (.aload_n 3, [], 0), (.iload_n 2, [], 0), (.bipush 10, [], 0), (.isub, [], 0), (.invokevirtual 203, [53, 3, 1, 6, 6], 0), (.ireturn, [0], 0)]),
  (66, [(.lconst 0, [], 0), (.lstore 5, [], 0), (.iconst 0, [], 0), (.istore 7, [], 0), (.nop, [72, 1, 0, 1, 1, 1, 1, 0, 1], 0)]),
  (72, [(.iload 7, [], 0), (.iload 4, [], 0), (.if_icmp .ge 37, [113, 1, 0, 1, 0, 1, 1], 0), (.lload 5, [], 0), (.aload_n 0, [], 0), (.getfield 21, [6, 1, 2], 0), (.iload 7, [], 0), (.invokevirtual 94, [172, 2, 1, 2, 3], 0), (.aload_n 0, [], 0), (.aload_n 3, [], 0), (.aload_n 0, [], 0), (.aload_n 3, [], 0), (.iload 7, [], 0), (.invokevirtual 203, [53, 3, 1, 6, 6], 0), (.invokevirtual 161, [51, 3, 1, 3, 6], 0), (.imul, [], 0), (.i2l, [], 0), (.ladd, [], 0), (.lstore 5, [], 0), (.iinc 7 1, [], 0), (.goto (-38), [72, 1, 0, 1, 1, 1, 1, 0, 1], 0)]),
  (113, [(.lload 5, [], 0), (.aload_n 0, [], 0), (.getfield 21, [6, 1, 2], 0), (.iload 4, [], 0), (.invokevirtual 193, [182, 2, 1, 4, 3], 0), (.i2l, [], 0), (.iload_n 2, [], 0), (.invokestatic 196, [64, 3, 2, 12], 0), (.l2i, [], 0), (.ireturn, [0], 0)])]
/-- MindReaders.shortest(II)I -/
def zc_19 : List (Nat × List zE) := [(0, [(.iload_n 1, [], 0), (.iconst 2, [], 0), (.if_icmp .lt 16, [18], 0), (.iload_n 1, [], 0), (.bipush 8, [], 0), (.if_icmp .gt 10, [18], 0), (.iload_n 2, [], 0), (.invokestatic 187, [47, 1, 1, 1], 0), (.ifCond .ne 6, [21, 1, 1, 1], 0), (.nop, [18], 0)]),
  (18, [(.bipush (-102), [], 0), (.ireturn, [0], 0)]),
  (21, [(.aload_n 0, [], 0), (.getfield 21, [6, 1, 2], 0), (.invokevirtual 77, [171, 1, 1, 1, 3], 0), (.ifCond .ne 6, [34, 1, 1, 1], 0), (.bipush (-103), [], 0), (.ireturn, [0], 0)]),
  (34, [(.aload_n 0, [], 0), (.iload_n 1, [], 0), (.invokevirtual 206, [58, 2, 2, 8, 6], 0), (.aload_n 0, [], 0), (.getfield 21, [6, 1, 2], 0), (.aload_n 0, [], 0), (.getfield 21, [6, 1, 2], 0), (.invokevirtual 77, [171, 1, 1, 1, 3], 0), (.invokevirtual 193, [182, 2, 1, 4, 3], 0), (.i2l, [], 0), (.iload_n 2, [], 0), (.invokestatic 196, [64, 3, 2, 12], 0), (.l2i, [], 0), (.ireturn, [0], 0)])]
/-- MindReaders.apart(I)I -/
def zc_20 : List (Nat × List zE) := [(0, [(.aload_n 0, [], 0), (.iload_n 1, [], 0), (.invokevirtual 124, [49, 2, 3, 2, 6], 0), (.astore_n 2, [], 0), (.aload_n 2, [], 0), (.ifnonnull 8, [15, 0, 0, 1], 0), (.bipush (-101), [], 0), (.goto 7, [19], 0)]),
  (15, [(.aload_n 2, [], 0), (.invokevirtual 210, [156, 1, 1, 5, 0], 0), (.nop, [19], 0)]),
  (19, [(.ireturn, [0], 0)])]
/-- MindReaders.named(I)I -/
def zc_21 : List (Nat × List zE) := [(0, [(.aload_n 0, [], 0), (.iload_n 1, [], 0), (.invokevirtual 124, [49, 2, 3, 2, 6], 0), (.astore_n 2, [], 0), (.aload_n 2, [], 0), (.ifnonnull 6, [13, 1, 0, 1], 0), (.bipush (-101), [], 0), (.ireturn, [0], 0)]),
  (13, [(.aload_n 0, [], 0), (.invokevirtual 165, [45, 1, 1, 1, 6], 0), (.ifCond .eq 14, [31], 0), (.aload_n 2, [], 0), (.aload_n 0, [], 0), (.getfield 50, [6, 10, 2], 0), (.invokevirtual 213, [157, 2, 1, 6, 0], 0), (.goto 5, [33], 0)]),
  (31, [(.bipush (-103), [], 0), (.nop, [33], 0)]),
  (33, [(.ireturn, [0], 0)])]
/-- MindReaders.right(IIIII)J -/
def zc_22 : List (Nat × List zE) := [(0, [(.aload_n 0, [], 0), (.iload_n 1, [], 0), (.invokevirtual 124, [49, 2, 3, 2, 6], 0), (.astore 6, [], 0), (.aload 6, [], 0), (.ifnull 17, [26], 0), (.iload_n 2, [], 0), (.ifCond .lt 13, [26], 0), (.iload_n 2, [], 0), (.aload_n 0, [], 0), (.aload 6, [], 0), (.invokevirtual 190, [50, 2, 1, 2, 6], 0), (.if_icmp .lt 7, [30, 1, 0, 1, 1, 1, 1, 1], 0), (.nop, [26], 0)]),
  (26, [(.ldc2_w 216, [], -101), (.lreturn, [], 0)]),
  (30, [(.iload_n 3, [], 0), (.iconst 2, [], 0), (.if_icmp .lt 29, [61], 0), (.iload_n 3, [], 0), (.bipush 8, [], 0), (.if_icmp .gt 23, [61], 0), (.iload 4, [], 0), (.ifCond .lt 18, [61], 0), (.iload 4, [], 0), (.bipush 10, [], 0), (.if_icmp .gt 11, [61], 0), (.iload 5, [], 0), (.invokestatic 187, [47, 1, 1, 1], 0), (.ifCond .ne 7, [65, 1, 0, 1, 1, 1, 1, 1], 0), (.nop, [61], 0)]),
  (61, [(.ldc2_w 218, [], -102), (.lreturn, [], 0)]),
  (65, [(.aload 6, [], 0), (.iload_n 2, [], 0), (.invokevirtual 158, [150, 2, 3, 2, 0], 0), (.astore 7, [], 0), (.aload 7, [], 0), (.invokevirtual 77, [171, 1, 1, 1, 3], 0), (.iconst 4, [], 0), (.if_icmp .gt 12, [91], 0), (.aload 7, [], 0), (.iload_n 3, [], 0), (.invokevirtual 220, [181, 2, 1, 3, 3], 0), (.ifCond .ne 7, [95, 1, 0, 1, 1, 1, 1, 1, 1], 0), (.nop, [91], 0)]),
  (91, [(.ldc2_w 223, [], -103), (.lreturn, [], 0)]),
  (95, [(.aload_n 0, [], 0), (.aload 6, [], 0), (.iload_n 2, [], 0), (.iload_n 3, [], 0), (.iload 4, [], 0), (.invokevirtual 225, [59, 5, 2, 13, 6], 0), (.bipush 10, [], 0), (.iload_n 3, [], 0), (.iconst 1, [], 0), (.isub, [], 0), (.imul, [], 0), (.i2l, [], 0), (.aload 7, [], 0), (.invokevirtual 77, [171, 1, 1, 1, 3], 0), (.invokestatic 229, [63, 2, 2, 6], 0), (.iload 5, [], 0), (.invokestatic 196, [64, 3, 2, 12], 0), (.lreturn, [], 0)])]
/-- MindReaders.note(I)I -/
def zc_23 : List (Nat × List zE) := [(0, [(.aload_n 0, [], 0), (.iload_n 1, [], 0), (.invokevirtual 147, [48, 2, 1, 2, 6], 0), (.ifCond .ne 6, [11, 1, 1], 0), (.bipush (-101), [], 0), (.ireturn, [0], 0)]),
  (11, [(.aload_n 0, [], 0), (.invokevirtual 233, [44, 1, 1, 3, 6], 0), (.ifCond .eq 15, [30], 0), (.aload_n 0, [], 0), (.getfield 47, [6, 9, 2], 0), (.invokevirtual 77, [171, 1, 1, 1, 3], 0), (.bipush 8, [], 0), (.if_icmp .le 6, [33, 1, 1], 0), (.nop, [30], 0)]),
  (30, [(.bipush (-103), [], 0), (.ireturn, [0], 0)]),
  (33, [(.aload_n 0, [], 0), (.getfield 37, [6, 5, 2], 0), (.invokevirtual 236, [159, 1, 1, 1, 1], 0), (.bipush 10, [], 0), (.if_icmp .lt 6, [48, 1, 1], 0), (.bipush (-104), [], 0), (.ireturn, [0], 0)]),
  (48, [(.aload_n 0, [], 0), (.getfield 37, [6, 5, 2], 0), (.iload_n 1, [], 0), (.aload_n 0, [], 0), (.getfield 47, [6, 9, 2], 0), (.invokevirtual 237, [162, 3, 0, 3, 1], 0), (.aload_n 0, [], 0), (.getfield 31, [6, 4, 2], 0), (.invokevirtual 88, [176, 1, 0, 1, 3], 0), (.aload_n 0, [], 0), (.getfield 37, [6, 5, 2], 0), (.invokevirtual 236, [159, 1, 1, 1, 1], 0), (.ireturn, [0], 0)])]
/-- MindReaders.forget()I -/
def zc_24 : List (Nat × List zE) := [(0, [(.aload_n 0, [], 0), (.getfield 37, [6, 5, 2], 0), (.invokevirtual 236, [159, 1, 1, 1, 1], 0), (.istore_n 1, [], 0), (.aload_n 0, [], 0), (.getfield 37, [6, 5, 2], 0), (.invokevirtual 240, [163, 1, 0, 1, 1], 0), (.iload_n 1, [], 0), (.ireturn, [0], 0)])]
/-- MindReaders.which()I -/
def zc_25 : List (Nat × List zE) := [(0, [(.iconst 0, [], 0), (.istore_n 1, [], 0), (.iconst 0, [], 0), (.istore_n 2, [], 0), (.nop, [4, 1, 1, 1], 0)]),
  (4, [(.iload_n 2, [], 0), (.aload_n 0, [], 0), (.getfield 101, [6, 3, 0], 0), (.if_icmp .ge 38, [47, 0, 1], 0), (.aload_n 0, [], 0), (.iload_n 2, [], 0), (.invokevirtual 124, [49, 2, 3, 2, 6], 0), (.astore_n 3, [], 0), (.aload_n 3, [], 0), (.ifnull 22, [41, 1, 1, 1], 0), (.aload_n 0, [], 0), (.aload_n 3, [], 0), (.aload_n 3, [], 0), (.invokevirtual 153, [148, 1, 1, 1, 0], 0), (.iconst 0, [], 0), (.invokevirtual 241, [57, 4, 1, 6, 6], 0), (.ifCond .eq 9, [41, 1, 1, 1], 0), (.iload_n 1, [], 0), (.iconst 1, [], 0), (.iload_n 2, [], 0), (.ishl, [], 0), (.ior, [], 0), (.istore_n 1, [], 0), (.nop, [41, 1, 1, 1], 0)]),
  (41, [(.iinc 2 1, [], 0), (.goto (-40), [4, 1, 1, 1], 0)]),
  (47, [(.iload_n 1, [], 0), (.ireturn, [0], 0)])]
/-- MindReaders.step(II)I -/
def zc_26 : List (Nat × List zE) := [(0, [(.aload_n 0, [], 0), (.iload_n 1, [], 0), (.invokevirtual 124, [49, 2, 3, 2, 6], 0), (.astore_n 3, [], 0), (.aload_n 3, [], 0), (.ifnonnull 6, [13, 1, 0, 1, 1], 0), (.bipush (-101), [], 0), (.ireturn, [0], 0)]),
  (13, [(.iload_n 2, [], 0), (.ifCond .lt 9, [23], 0), (.iload_n 2, [], 0), (.bipush 99, [], 0), (.if_icmp .le 6, [26, 1, 0, 1, 1], 0), (.nop, [23], 0)]),
  (23, [(.bipush (-102), [], 0), (.ireturn, [0], 0)]),
  (26, [(.aload_n 0, [], 0), (.aload_n 3, [], 0), (.invokevirtual 190, [50, 2, 1, 2, 6], 0), (.istore 4, [], 0), (.iload 4, [], 0), (.ifCond .ne 6, [41, 1, 0, 1, 1, 1], 0), (.bipush (-103), [], 0), (.ireturn, [0], 0)]),
  (41, [(.iconst 0, [], 0), (.istore 5, [], 0), (.nop, [44, 1, 0, 1, 1, 1, 1], 0)]),
  (44, [(.iload 5, [], 0), (.bipush 7, [], 0), (.if_icmp .gt 26, [74], 0), (.aload_n 0, [], 0), (.aload_n 3, [], 0), (.iload 4, [], 0), (.iload 5, [], 0), (.iload_n 2, [], 0), (.imul, [], 0), (.invokevirtual 241, [57, 4, 1, 6, 6], 0), (.ifCond .eq 6, [68, 1, 0, 1, 1, 1, 1], 0), (.iload 5, [], 0), (.ireturn, [0], 0)]),
  (68, [(.iinc 5 1, [], 0), (.goto (-27), [44, 1, 0, 1, 1, 1, 1], 0)]),
  (74, [(.iconst (-1), [], 0), (.ireturn, [0], 0)])]
/-- MindReaders.seen(II)J -/
def zc_27 : List (Nat × List zE) := [(0, [(.iload_n 1, [], 0), (.iconst 1, [], 0), (.if_icmp .lt 16, [18], 0), (.iload_n 1, [], 0), (.bipush 6, [], 0), (.if_icmp .gt 10, [18], 0), (.iload_n 2, [], 0), (.invokestatic 187, [47, 1, 1, 1], 0), (.ifCond .ne 7, [22, 1, 1, 1], 0), (.nop, [18], 0)]),
  (18, [(.ldc2_w 218, [], -102), (.lreturn, [], 0)]),
  (22, [(.aload_n 0, [], 0), (.getfield 21, [6, 1, 2], 0), (.invokevirtual 77, [171, 1, 1, 1, 3], 0), (.ifCond .ne 7, [36, 1, 1, 1], 0), (.ldc2_w 223, [], -103), (.lreturn, [], 0)]),
  (36, [(.aload_n 0, [], 0), (.iload_n 1, [], 0), (.invokevirtual 245, [61, 2, 2, 8, 6], 0), (.aload_n 0, [], 0), (.getfield 21, [6, 1, 2], 0), (.aload_n 0, [], 0), (.getfield 21, [6, 1, 2], 0), (.invokevirtual 77, [171, 1, 1, 1, 3], 0), (.invokevirtual 193, [182, 2, 1, 4, 3], 0), (.i2l, [], 0), (.iload_n 1, [], 0), (.invokestatic 229, [63, 2, 2, 6], 0), (.iload_n 2, [], 0), (.invokestatic 196, [64, 3, 2, 12], 0), (.lreturn, [], 0)])]
/-- MindReaders.change(II)I -/
def zc_28 : List (Nat × List zE) := [(0, [(.aload_n 0, [], 0), (.iload_n 1, [], 0), (.invokevirtual 124, [49, 2, 3, 2, 6], 0), (.astore_n 3, [], 0), (.aload_n 0, [], 0), (.iload_n 2, [], 0), (.invokevirtual 124, [49, 2, 3, 2, 6], 0), (.astore 4, [], 0), (.aload_n 3, [], 0), (.ifnull 8, [22], 0), (.aload 4, [], 0), (.ifnonnull 6, [25, 1, 0, 0, 1, 1], 0), (.nop, [22], 0)]),
  (22, [(.bipush (-101), [], 0), (.ireturn, [0], 0)]),
  (25, [(.aload_n 0, [], 0), (.aload_n 3, [], 0), (.aload 4, [], 0), (.invokevirtual 248, [56, 3, 1, 5, 6], 0), (.ireturn, [0], 0)])]
/-- MindReaders.cheapest(I)I -/
def zc_29 : List (Nat × List zE) := [(0, [(.aload_n 0, [], 0), (.iload_n 1, [], 0), (.invokevirtual 124, [49, 2, 3, 2, 6], 0), (.astore_n 2, [], 0), (.aload_n 2, [], 0), (.ifnonnull 6, [13, 1, 1, 1], 0), (.bipush (-101), [], 0), (.ireturn, [0], 0)]),
  (13, [(.iconst (-1), [], 0), (.istore_n 3, [], 0), (.iconst 0, [], 0), (.istore 4, [], 0), (.iconst 0, [], 0), (.istore 5, [], 0), (.nop, [21, 1, 1, 1, 1, 1, 1], 0)]),
  (21, [(.iload 5, [], 0), (.aload_n 0, [], 0), (.getfield 101, [6, 3, 0], 0), (.if_icmp .ge 59, [86, 0, 0, 0, 1], 0), (.aload_n 0, [], 0), (.iload 5, [], 0), (.invokevirtual 124, [49, 2, 3, 2, 6], 0), (.astore 6, [], 0), (.aload 6, [], 0), (.ifnull 40, [80, 1, 1, 1, 1, 1, 1], 0), (.iload 5, [], 0), (.iload_n 1, [], 0), (.if_icmp .ne 6, [52, 1, 1, 1, 1, 1, 1, 1], 0), (.goto 31, [80, 1, 1, 1, 1, 1, 1], 0)]),
  (52, [(.aload_n 0, [], 0), (.aload_n 2, [], 0), (.aload 6, [], 0), (.invokevirtual 248, [56, 3, 1, 5, 6], 0), (.istore 7, [], 0), (.iload_n 3, [], 0), (.iconst (-1), [], 0), (.if_icmp .eq 10, [73, 1, 1, 1, 0, 0, 1, 0, 1], 0), (.iload 7, [], 0), (.iload 4, [], 0), (.if_icmp .ge 10, [80, 1, 1, 1, 1, 1, 1], 0), (.nop, [73, 1, 1, 1, 0, 0, 1, 0, 1], 0)]),
  (73, [(.iload 5, [], 0), (.istore_n 3, [], 0), (.iload 7, [], 0), (.istore 4, [], 0), (.nop, [80, 1, 1, 1, 1, 1, 1], 0)]),
  (80, [(.iinc 5 1, [], 0), (.goto (-62), [21, 1, 1, 1, 1, 1, 1], 0)]),
  (86, [(.iload_n 3, [], 0), (.ireturn, [0], 0)])]
/-- MindReaders.luck(IIII)J -/
def zc_30 : List (Nat × List zE) := [(0, [(.iload_n 1, [], 0), (.iconst 1, [], 0), (.if_icmp .lt 37, [39], 0), (.iload_n 1, [], 0), (.bipush 12, [], 0), (.if_icmp .gt 31, [39], 0), (.iload_n 2, [], 0), (.iconst 2, [], 0), (.if_icmp .lt 26, [39], 0), (.iload_n 2, [], 0), (.bipush 9, [], 0), (.if_icmp .gt 20, [39], 0), (.iload_n 3, [], 0), (.ifCond .lt 16, [39], 0), (.iload_n 3, [], 0), (.iload_n 1, [], 0), (.if_icmp .gt 11, [39], 0), (.iload 4, [], 0), (.invokestatic 187, [47, 1, 1, 1], 0), (.ifCond .ne 7, [43, 0, 1, 1, 1, 1], 0), (.nop, [39], 0)]),
  (39, [(.ldc2_w 218, [], -102), (.lreturn, [], 0)]),
  (43, [(.lconst 0, [], 0), (.lstore 5, [], 0), (.iload_n 3, [], 0), (.istore 7, [], 0), (.nop, [49, 0, 1, 1, 0, 1, 1, 0, 1], 0)]),
  (49, [(.iload 7, [], 0), (.iload_n 1, [], 0), (.if_icmp .gt 32, [84, 0, 1, 1, 0, 1, 1], 0), (.lload 5, [], 0), (.iload_n 1, [], 0), (.iload 7, [], 0), (.invokestatic 252, [62, 2, 2, 5], 0), (.iload_n 2, [], 0), (.iconst 1, [], 0), (.isub, [], 0), (.i2l, [], 0), (.iload_n 1, [], 0), (.iload 7, [], 0), (.isub, [], 0), (.invokestatic 229, [63, 2, 2, 6], 0), (.lmul, [], 0), (.ladd, [], 0), (.lstore 5, [], 0), (.iinc 7 1, [], 0), (.goto (-32), [49, 0, 1, 1, 0, 1, 1, 0, 1], 0)]),
  (84, [(.lload 5, [], 0), (.iload_n 2, [], 0), (.i2l, [], 0), (.iload_n 1, [], 0), (.invokestatic 229, [63, 2, 2, 6], 0), (.iload 4, [], 0), (.invokestatic 196, [64, 3, 2, 12], 0), (.lreturn, [], 0)])]
/-- MindReaders.left(II)I -/
def zc_31 : List (Nat × List zE) := [(0, [(.aload_n 0, [], 0), (.iload_n 1, [], 0), (.invokevirtual 124, [49, 2, 3, 2, 6], 0), (.astore_n 3, [], 0), (.aload_n 3, [], 0), (.ifnonnull 6, [13, 1, 0, 1, 1], 0), (.bipush (-101), [], 0), (.ireturn, [0], 0)]),
  (13, [(.iload_n 2, [], 0), (.ifCond .lt 10, [24], 0), (.iload_n 2, [], 0), (.sipush 255, [], 0), (.if_icmp .le 6, [27, 1, 0, 1, 1], 0), (.nop, [24], 0)]),
  (24, [(.bipush (-102), [], 0), (.ireturn, [0], 0)]),
  (27, [(.aload_n 0, [], 0), (.aload_n 3, [], 0), (.iload_n 2, [], 0), (.bipush 8, [], 0), (.invokevirtual 256, [65, 4, 1, 8, 6], 0), (.ireturn, [0], 0)])]
/-- MindReaders.stop(I)I -/
def zc_32 : List (Nat × List zE) := [(0, [(.aload_n 0, [], 0), (.iload_n 1, [], 0), (.invokevirtual 124, [49, 2, 3, 2, 6], 0), (.astore_n 2, [], 0), (.aload_n 2, [], 0), (.ifnonnull 6, [13, 1, 0, 1], 0), (.bipush (-101), [], 0), (.ireturn, [0], 0)]),
  (13, [(.iconst 0, [], 0), (.istore_n 3, [], 0), (.nop, [15, 1, 0, 1, 1], 0)]),
  (15, [(.iload_n 3, [], 0), (.bipush 8, [], 0), (.if_icmp .ge 50, [68], 0), (.iconst 0, [], 0), (.istore 4, [], 0), (.nop, [24, 1, 0, 1, 1, 1], 0)]),
  (24, [(.iload 4, [], 0), (.sipush 255, [], 0), (.if_icmp .gt 33, [62, 1, 0, 1, 1], 0), (.iload 4, [], 0), (.invokestatic 260, [199, 1, 1, 1], 0), (.iload_n 3, [], 0), (.if_icmp .ne 18, [56, 1, 0, 1, 1, 1], 0), (.aload_n 0, [], 0), (.aload_n 2, [], 0), (.iload 4, [], 0), (.iconst 2, [], 0), (.invokevirtual 256, [65, 4, 1, 8, 6], 0), (.iconst 1, [], 0), (.if_icmp .gt 6, [56, 1, 0, 1, 1, 1], 0), (.iload 4, [], 0), (.ireturn, [0], 0)]),
  (56, [(.iinc 4 1, [], 0), (.goto (-35), [24, 1, 0, 1, 1, 1], 0)]),
  (62, [(.iinc 3 1, [], 0), (.goto (-50), [15, 1, 0, 1, 1], 0)]),
  (68, [(.sipush 255, [], 0), (.ireturn, [0], 0)])]
/-- MindReaders.image()I -/
def zc_33 : List (Nat × List zE) := [(0, [(.aload_n 0, [], 0), (.getfield 41, [6, 6, 2], 0), (.aload_n 0, [], 0), (.getfield 21, [6, 1, 2], 0), (.invokevirtual 265, [177, 2, 0, 3, 3], 0), (.aload_n 0, [], 0), (.getfield 44, [6, 7, 2], 0), (.aload_n 0, [], 0), (.getfield 37, [6, 5, 2], 0), (.invokevirtual 268, [164, 2, 0, 3, 1], 0), (.aload_n 0, [], 0), (.iconst 1, [], 0), (.putfield 271, [6, 8, 3], 0), (.aload_n 0, [], 0), (.getfield 21, [6, 1, 2], 0), (.invokevirtual 77, [171, 1, 1, 1, 3], 0), (.ireturn, [0], 0)])]
/-- MindReaders.restore()I -/
def zc_34 : List (Nat × List zE) := [(0, [(.aload_n 0, [], 0), (.getfield 271, [6, 8, 0], 0), (.ifCond .ne 6, [10, 1], 0), (.bipush (-103), [], 0), (.ireturn, [0], 0)]),
  (10, [(.iconst 0, [], 0), (.istore_n 1, [], 0), (.nop, [12, 1, 1], 0)]),
  (12, [(.iload_n 1, [], 0), (.aload_n 0, [], 0), (.getfield 41, [6, 6, 2], 0), (.invokevirtual 77, [171, 1, 1, 1, 3], 0), (.if_icmp .ge 25, [45, 1], 0), (.aload_n 0, [], 0), (.getfield 21, [6, 1, 2], 0), (.iload_n 1, [], 0), (.aload_n 0, [], 0), (.getfield 41, [6, 6, 2], 0), (.iload_n 1, [], 0), (.invokevirtual 94, [172, 2, 1, 2, 3], 0), (.invokevirtual 150, [173, 3, 0, 3, 3], 0), (.iinc 1 1, [], 0), (.goto (-30), [12, 1, 1], 0)]),
  (45, [(.aload_n 0, [], 0), (.getfield 37, [6, 5, 2], 0), (.aload_n 0, [], 0), (.getfield 44, [6, 7, 2], 0), (.invokevirtual 268, [164, 2, 0, 3, 1], 0), (.aload_n 0, [], 0), (.getfield 21, [6, 1, 2], 0), (.invokevirtual 77, [171, 1, 1, 1, 3], 0), (.ireturn, [0], 0)])]
/-- MindReaders.count(I)I -/
def zc_35 : List (Nat × List zE) := [(0, [(.iload_n 1, [], 0), (.tableswitch 91 0 5 #[39, 47, 55, 60, 68, 76], [1, 92, 1, 40, 48, 56, 61, 69, 77], 39)]),
  (40, [(.aload_n 0, [], 0), (.getfield 12, [6, 0, 2], 0), (.invokevirtual 117, [188, 1, 1, 1, 5], 0), (.ireturn, [0], 0)]),
  (48, [(.aload_n 0, [], 0), (.getfield 21, [6, 1, 2], 0), (.invokevirtual 77, [171, 1, 1, 1, 3], 0), (.ireturn, [0], 0)]),
  (56, [(.aload_n 0, [], 0), (.getfield 101, [6, 3, 0], 0), (.ireturn, [0], 0)]),
  (61, [(.aload_n 0, [], 0), (.getfield 37, [6, 5, 2], 0), (.invokevirtual 236, [159, 1, 1, 1, 1], 0), (.ireturn, [0], 0)]),
  (69, [(.aload_n 0, [], 0), (.getfield 31, [6, 4, 2], 0), (.invokevirtual 77, [171, 1, 1, 1, 3], 0), (.ireturn, [0], 0)]),
  (77, [(.aload_n 0, [], 0), (.getfield 21, [6, 1, 2], 0), (.aload_n 0, [], 0), (.getfield 21, [6, 1, 2], 0), (.invokevirtual 77, [171, 1, 1, 1, 3], 0), (.invokevirtual 193, [182, 2, 1, 4, 3], 0), (.ireturn, [0], 0)]),
  (92, [(.bipush (-102), [], 0), (.ireturn, [0], 0)])]
/-- MindReaders.digest()J -/
def zc_36 : List (Nat × List zE) := [(0, [(.ldc2_w 275, [], 479), (.lstore_n 1, [], 0), (.iconst 0, [], 0), (.istore_n 3, [], 0), (.nop, [6, 1, 1, 0, 1], 0)]),
  (6, [(.iload_n 3, [], 0), (.aload_n 0, [], 0), (.getfield 12, [6, 0, 2], 0), (.invokevirtual 117, [188, 1, 1, 1, 5], 0), (.if_icmp .ge 37, [51, 1, 1], 0), (.iconst 0, [], 0), (.istore 4, [], 0), (.nop, [20, 1, 1, 0, 1, 1], 0)]),
  (20, [(.iload 4, [], 0), (.iconst 3, [], 0), (.if_icmp .gt 22, [45, 1, 1, 0, 1], 0), (.lload_n 1, [], 0), (.aload_n 0, [], 0), (.iload_n 3, [], 0), (.iload 4, [], 0), (.invokevirtual 277, [8, 3, 1, 3, 6], 0), (.i2l, [], 0), (.invokestatic 280, [37, 2, 2, 4], 0), (.lstore_n 1, [], 0), (.iinc 4 1, [], 0), (.goto (-22), [20, 1, 1, 0, 1, 1], 0)]),
  (45, [(.iinc 3 1, [], 0), (.goto (-42), [6, 1, 1, 0, 1], 0)]),
  (51, [(.lload_n 1, [], 0), (.aload_n 0, [], 0), (.getfield 21, [6, 1, 2], 0), (.invokestatic 284, [38, 2, 2, 6], 0), (.lstore_n 1, [], 0), (.iconst 0, [], 0), (.istore_n 3, [], 0), (.nop, [62, 1, 1, 0, 1], 0)]),
  (62, [(.iload_n 3, [], 0), (.aload_n 0, [], 0), (.getfield 101, [6, 3, 0], 0), (.if_icmp .ge 30, [97, 1, 1], 0), (.aload_n 0, [], 0), (.iload_n 3, [], 0), (.invokevirtual 124, [49, 2, 3, 2, 6], 0), (.astore 4, [], 0), (.aload 4, [], 0), (.ifnull 12, [91, 1, 1, 0, 1], 0), (.aload_n 0, [], 0), (.lload_n 1, [], 0), (.iload_n 3, [], 0), (.aload 4, [], 0), (.invokevirtual 288, [39, 4, 2, 9, 6], 0), (.lstore_n 1, [], 0), (.nop, [91, 1, 1, 0, 1], 0)]),
  (91, [(.iinc 3 1, [], 0), (.goto (-32), [62, 1, 1, 0, 1], 0)]),
  (97, [(.iconst 0, [], 0), (.istore_n 3, [], 0), (.nop, [99, 1, 1, 0, 1], 0)]),
  (99, [(.iload_n 3, [], 0), (.aload_n 0, [], 0), (.getfield 37, [6, 5, 2], 0), (.invokevirtual 236, [159, 1, 1, 1, 1], 0), (.if_icmp .ge 53, [160, 1, 1], 0), (.lload_n 1, [], 0), (.aload_n 0, [], 0), (.getfield 37, [6, 5, 2], 0), (.iload_n 3, [], 0), (.invokevirtual 292, [160, 2, 1, 2, 1], 0), (.i2l, [], 0), (.invokestatic 280, [37, 2, 2, 4], 0), (.lstore_n 1, [], 0), (.lload_n 1, [], 0), (.aload_n 0, [], 0), (.getfield 37, [6, 5, 2], 0), (.iload_n 3, [], 0), (.invokevirtual 295, [161, 2, 3, 2, 1], 0), (.invokevirtual 77, [171, 1, 1, 1, 3], 0), (.i2l, [], 0), (.invokestatic 280, [37, 2, 2, 4], 0), (.lstore_n 1, [], 0), (.lload_n 1, [], 0), (.aload_n 0, [], 0), (.getfield 37, [6, 5, 2], 0), (.iload_n 3, [], 0), (.invokevirtual 295, [161, 2, 3, 2, 1], 0), (.invokestatic 284, [38, 2, 2, 6], 0), (.lstore_n 1, [], 0), (.iinc 3 1, [], 0), (.goto (-58), [99, 1, 1, 0, 1], 0)]),
  (160, [(.lload_n 1, [], 0), (.aload_n 0, [], 0), (.invokevirtual 298, [25, 1, 1, 4, 6], 0), (.i2l, [], 0), (.invokestatic 280, [37, 2, 2, 4], 0), (.lstore_n 1, [], 0), (.lload_n 1, [], 0), (.aload_n 0, [], 0), (.getfield 31, [6, 4, 2], 0), (.invokestatic 284, [38, 2, 2, 6], 0), (.lstore_n 1, [], 0), (.iconst 0, [], 0), (.istore_n 3, [], 0), (.nop, [181, 1, 1, 0, 1], 0)]),
  (181, [(.iload_n 3, [], 0), (.iconst 5, [], 0), (.if_icmp .gt 20, [203, 0, 1], 0), (.lload_n 1, [], 0), (.aload_n 0, [], 0), (.iload_n 3, [], 0), (.invokevirtual 301, [35, 2, 1, 2, 6], 0), (.i2l, [], 0), (.invokestatic 280, [37, 2, 2, 4], 0), (.lstore_n 1, [], 0), (.iinc 3 1, [], 0), (.goto (-19), [181, 1, 1, 0, 1], 0)]),
  (203, [(.lload_n 1, [], 0), (.lreturn, [], 0)])]
/-- MindReaders.mix(JJ)J -/
def zc_37 : List (Nat × List zE) := [(0, [(.ldc2_w 304, [], 31), (.lload_n 0, [], 0), (.lmul, [], 0), (.lload_n 2, [], 0), (.ladd, [], 0), (.lreturn, [], 0)])]
/-- MindReaders.mixRow(JLMindReaders$Row;)J -/
def zc_38 : List (Nat × List zE) := [(0, [(.lload_n 0, [], 0), (.lstore_n 3, [], 0), (.iconst 0, [], 0), (.istore 5, [], 0), (.nop, [5, 0, 0, 1, 1, 0, 1], 0)]),
  (5, [(.iload 5, [], 0), (.aload_n 2, [], 0), (.invokevirtual 77, [171, 1, 1, 1, 3], 0), (.if_icmp .ge 21, [32, 0, 0, 0, 1], 0), (.lload_n 3, [], 0), (.aload_n 2, [], 0), (.iload 5, [], 0), (.invokevirtual 94, [172, 2, 1, 2, 3], 0), (.i2l, [], 0), (.invokestatic 280, [37, 2, 2, 4], 0), (.lstore_n 3, [], 0), (.iinc 5 1, [], 0), (.goto (-24), [5, 0, 0, 1, 1, 0, 1], 0)]),
  (32, [(.lload_n 3, [], 0), (.lreturn, [], 0)])]
/-- MindReaders.mixCode(JILMindReaders$Code;)J -/
def zc_39 : List (Nat × List zE) := [(0, [(.lload_n 1, [], 0), (.lstore 5, [], 0), (.iconst 0, [], 0), (.istore 7, [], 0), (.nop, [6, 1, 0, 0, 1, 1, 1, 0, 1], 0)]),
  (6, [(.iload 7, [], 0), (.aload 4, [], 0), (.invokevirtual 153, [148, 1, 1, 1, 0], 0), (.if_icmp .ge 75, [88, 1, 0, 0, 1, 1, 1], 0), (.iconst 0, [], 0), (.istore 8, [], 0), (.nop, [19, 1, 0, 0, 1, 1, 1, 0, 1, 1], 0)]),
  (19, [(.iload 8, [], 0), (.iconst 5, [], 0), (.if_icmp .gt 26, [48, 1, 0, 0, 1, 1, 1, 0, 1], 0), (.lload 5, [], 0), (.aload_n 0, [], 0), (.iload_n 3, [], 0), (.iload 7, [], 0), (.iload 8, [], 0), (.invokevirtual 306, [11, 4, 1, 5, 6], 0), (.i2l, [], 0), (.invokestatic 280, [37, 2, 2, 4], 0), (.lstore 5, [], 0), (.iinc 8 1, [], 0), (.goto (-26), [19, 1, 0, 0, 1, 1, 1, 0, 1, 1], 0)]),
  (48, [(.lload 5, [], 0), (.aload_n 0, [], 0), (.iload_n 3, [], 0), (.iload 7, [], 0), (.bipush 10, [], 0), (.invokevirtual 306, [11, 4, 1, 5, 6], 0), (.i2l, [], 0), (.invokestatic 280, [37, 2, 2, 4], 0), (.lstore 5, [], 0), (.lload 5, [], 0), (.aload_n 0, [], 0), (.iload_n 3, [], 0), (.iload 7, [], 0), (.bipush 30, [], 0), (.invokevirtual 306, [11, 4, 1, 5, 6], 0), (.i2l, [], 0), (.invokestatic 280, [37, 2, 2, 4], 0), (.lstore 5, [], 0), (.iinc 7 1, [], 0), (.goto (-79), [6, 1, 0, 0, 1, 1, 1, 0, 1], 0)]),
  (88, [(.lload 5, [], 0), (.aload_n 0, [], 0), (.iload_n 3, [], 0), (.iconst 0, [], 0), (.invokevirtual 310, [13, 3, 1, 5, 6], 0), (.i2l, [], 0), (.invokestatic 280, [37, 2, 2, 4], 0), (.lstore 5, [], 0), (.lload 5, [], 0), (.aload_n 0, [], 0), (.getfield 68, [6, 13, 2], 0), (.aload 4, [], 0), (.invokevirtual 183, [166, 2, 1, 4, 2], 0), (.i2l, [], 0), (.invokestatic 280, [37, 2, 2, 4], 0), (.lstore 5, [], 0), (.lload 5, [], 0), (.aload_n 0, [], 0), (.iload_n 3, [], 0), (.invokevirtual 313, [17, 2, 1, 6, 6], 0), (.i2l, [], 0), (.invokestatic 280, [37, 2, 2, 4], 0), (.lstore 5, [], 0), (.lload 5, [], 0), (.aload_n 0, [], 0), (.iload_n 3, [], 0), (.invokevirtual 316, [20, 2, 1, 3, 6], 0), (.i2l, [], 0), (.invokestatic 280, [37, 2, 2, 4], 0), (.lstore 5, [], 0), (.lload 5, [], 0), (.aload_n 0, [], 0), (.iload_n 3, [], 0), (.invokevirtual 319, [32, 2, 1, 5, 6], 0), (.i2l, [], 0), (.invokestatic 280, [37, 2, 2, 4], 0), (.lreturn, [], 0)])]
/-- MindReaders.byteOf(JI)I -/
def zc_40 : List (Nat × List zE) := [(0, [(.lload_n 0, [], 0), (.bipush 8, [], 0), (.iload_n 2, [], 0), (.imul, [], 0), (.lushr, [], 0), (.ldc2_w 322, [], 255), (.land, [], 0), (.l2i, [], 0), (.ireturn, [0], 0)])]
/-- MindReaders.lettersIn(J)I -/
def zc_41 : List (Nat × List zE) := [(0, [(.iconst 0, [], 0), (.istore_n 2, [], 0), (.iconst 0, [], 0), (.istore_n 3, [], 0), (.nop, [4, 1, 0, 1, 1], 0)]),
  (4, [(.iload_n 3, [], 0), (.bipush 8, [], 0), (.if_icmp .ge 43, [50, 0, 0, 1], 0), (.lload_n 0, [], 0), (.iload_n 3, [], 0), (.invokestatic 81, [40, 2, 1, 3], 0), (.istore 4, [], 0), (.iload 4, [], 0), (.bipush 126, [], 0), (.if_icmp .gt 13, [34], 0), (.iload 4, [], 0), (.ifCond .eq 10, [36, 1, 0, 1, 1, 1], 0), (.iload_n 2, [], 0), (.iload_n 3, [], 0), (.if_icmp .ge 5, [36, 1, 0, 1, 1, 1], 0), (.nop, [34], 0)]),
  (34, [(.iconst (-1), [], 0), (.ireturn, [0], 0)]),
  (36, [(.iload 4, [], 0), (.ifCond .eq 6, [44, 1, 0, 1, 1], 0), (.iinc 2 1, [], 0), (.nop, [44, 1, 0, 1, 1], 0)]),
  (44, [(.iinc 3 1, [], 0), (.goto (-43), [4, 1, 0, 1, 1], 0)]),
  (50, [(.iload_n 2, [], 0), (.ireturn, [0], 0)])]
/-- MindReaders.signalOf(I)I -/
def zc_42 : List (Nat × List zE) := [(0, [(.iload_n 0, [], 0), (.bipush 97, [], 0), (.if_icmp .lt 16, [19], 0), (.iload_n 0, [], 0), (.bipush 104, [], 0), (.if_icmp .gt 10, [19], 0), (.iload_n 0, [], 0), (.bipush 97, [], 0), (.isub, [], 0), (.goto 4, [20], 0)]),
  (19, [(.iconst (-1), [], 0), (.nop, [20], 0)]),
  (20, [(.ireturn, [0], 0)])]
/-- MindReaders.firstFault()I -/
def zc_43 : List (Nat × List zE) := [(0, [(.iconst 0, [], 0), (.istore_n 1, [], 0), (.iconst 0, [], 0), (.istore_n 2, [], 0), (.iconst 0, [], 0), (.istore_n 3, [], 0), (.nop, [6, 1, 1, 1, 1], 0)]),
  (6, [(.iload_n 3, [], 0), (.aload_n 0, [], 0), (.getfield 31, [6, 4, 2], 0), (.invokevirtual 77, [171, 1, 1, 1, 3], 0), (.if_icmp .ge 66, [80, 1], 0), (.aload_n 0, [], 0), (.getfield 31, [6, 4, 2], 0), (.iload_n 3, [], 0), (.invokevirtual 94, [172, 2, 1, 2, 3], 0), (.istore 4, [], 0), (.iload 4, [], 0), (.invokestatic 98, [42, 1, 1, 1], 0), (.iconst (-1), [], 0), (.if_icmp .eq 14, [47, 1, 1, 1, 1, 1], 0), (.iload_n 2, [], 0), (.iconst 5, [], 0), (.if_icmp .ge 9, [47, 1, 1, 1, 1, 1], 0), (.iinc 2 1, [], 0), (.goto 30, [74, 1, 1, 1, 1], 0)]),
  (47, [(.iload 4, [], 0), (.bipush 44, [], 0), (.if_icmp .ne 21, [72, 0, 0, 0, 1], 0), (.iload_n 2, [], 0), (.ifCond .le 17, [72, 0, 0, 0, 1], 0), (.iload_n 1, [], 0), (.bipush 7, [], 0), (.if_icmp .ge 11, [72, 0, 0, 0, 1], 0), (.iinc 1 1, [], 0), (.iconst 0, [], 0), (.istore_n 2, [], 0), (.goto 5, [74, 1, 1, 1, 1], 0)]),
  (72, [(.iload_n 3, [], 0), (.ireturn, [0], 0)]),
  (74, [(.iinc 3 1, [], 0), (.goto (-71), [6, 1, 1, 1, 1], 0)]),
  (80, [(.aload_n 0, [], 0), (.getfield 31, [6, 4, 2], 0), (.invokevirtual 77, [171, 1, 1, 1, 3], 0), (.ireturn, [0], 0)])]
/-- MindReaders.readPage()Z -/
def zc_44 : List (Nat × List zE) := [(0, [(.aload_n 0, [], 0), (.getfield 47, [6, 9, 2], 0), (.invokevirtual 88, [176, 1, 0, 1, 3], 0), (.iconst 0, [], 0), (.istore_n 1, [], 0), (.nop, [9, 1, 1], 0)]),
  (9, [(.iload_n 1, [], 0), (.aload_n 0, [], 0), (.getfield 31, [6, 4, 2], 0), (.invokevirtual 77, [171, 1, 1, 1, 3], 0), (.if_icmp .ge 36, [53], 0), (.aload_n 0, [], 0), (.getfield 31, [6, 4, 2], 0), (.iload_n 1, [], 0), (.invokevirtual 94, [172, 2, 1, 2, 3], 0), (.invokestatic 98, [42, 1, 1, 1], 0), (.istore_n 2, [], 0), (.iload_n 2, [], 0), (.iconst (-1), [], 0), (.if_icmp .ne 5, [39, 1, 1, 1], 0), (.iconst 0, [], 0), (.ireturn, [1], 0)]),
  (39, [(.aload_n 0, [], 0), (.getfield 47, [6, 9, 2], 0), (.iload_n 2, [], 0), (.invokevirtual 85, [174, 2, 0, 2, 3], 0), (.iinc 1 1, [], 0), (.goto (-41), [9, 1, 1], 0)]),
  (53, [(.iconst 1, [], 0), (.ireturn, [1], 0)])]
/-- MindReaders.hearPage()Z -/
def zc_45 : List (Nat × List zE) := [(0, [(.aload_n 0, [], 0), (.invokevirtual 233, [44, 1, 1, 3, 6], 0), (.ifCond .ne 5, [9, 1], 0), (.iconst 0, [], 0), (.ireturn, [1], 0)]),
  (9, [(.aload_n 0, [], 0), (.getfield 12, [6, 0, 2], 0), (.aload_n 0, [], 0), (.getfield 47, [6, 9, 2], 0), (.iconst 0, [], 0), (.aload_n 0, [], 0), (.getfield 50, [6, 10, 2], 0), (.invokevirtual 324, [198, 4, 0, 7, 5], 0), (.iconst 1, [], 0), (.ireturn, [1], 0)])]
/-- MindReaders.isWeight(I)Z -/
def zc_46 : List (Nat × List zE) := [(0, [(.iload_n 0, [], 0), (.iconst 1, [], 0), (.if_icmp .lt 13, [15], 0), (.iload_n 0, [], 0), (.bipush 99, [], 0), (.if_icmp .gt 7, [15], 0), (.iconst 1, [], 0), (.goto 4, [16], 0)]),
  (15, [(.iconst 0, [], 0), (.nop, [16], 0)]),
  (16, [(.ireturn, [1], 0)])]
/-- MindReaders.isPart(I)Z -/
def zc_47 : List (Nat × List zE) := [(0, [(.iload_n 0, [], 0), (.ifCond .eq 8, [9], 0), (.iload_n 0, [], 0), (.iconst 1, [], 0), (.if_icmp .ne 7, [13], 0), (.nop, [9], 0)]),
  (9, [(.iconst 1, [], 0), (.goto 4, [14], 0)]),
  (13, [(.iconst 0, [], 0), (.nop, [14], 0)]),
  (14, [(.ireturn, [1], 0)])]
/-- MindReaders.isThing(I)Z -/
def zc_48 : List (Nat × List zE) := [(0, [(.iload_n 1, [], 0), (.ifCond .lt 18, [19], 0), (.iload_n 1, [], 0), (.aload_n 0, [], 0), (.getfield 21, [6, 1, 2], 0), (.invokevirtual 77, [171, 1, 1, 1, 3], 0), (.if_icmp .ge 7, [19], 0), (.iconst 1, [], 0), (.goto 4, [20], 0)]),
  (19, [(.iconst 0, [], 0), (.nop, [20], 0)]),
  (20, [(.ireturn, [1], 0)])]
/-- MindReaders.codeAt(I)LMindReaders$Code; -/
def zc_49 : List (Nat × List zE) := [(0, [(.iload_n 1, [], 0), (.ifCond .lt 29, [30], 0), (.iload_n 1, [], 0), (.aload_n 0, [], 0), (.getfield 101, [6, 3, 0], 0), (.if_icmp .ge 21, [30], 0), (.iload_n 1, [], 0), (.aload_n 0, [], 0), (.getfield 27, [6, 2, 2], 0), (.arraylength, [], 0), (.if_icmp .ge 12, [30], 0), (.aload_n 0, [], 0), (.getfield 27, [6, 2, 2], 0), (.iload_n 1, [], 0), (.aaload, [102], 0), (.goto 4, [31], 0)]),
  (30, [(.aconst_null, [], 0), (.nop, [31], 0)]),
  (31, [(.areturn, [], 0)])]
/-- MindReaders.thingsSaid(LMindReaders$Code;)I -/
def zc_50 : List (Nat × List zE) := [(0, [(.aload_n 1, [], 0), (.invokevirtual 153, [148, 1, 1, 1, 0], 0), (.aload_n 0, [], 0), (.getfield 21, [6, 1, 2], 0), (.invokevirtual 77, [171, 1, 1, 1, 3], 0), (.invokestatic 327, [201, 2, 1, 2], 0), (.ireturn, [0], 0)])]
/-- MindReaders.longOf(LMindReaders$Code;I)I -/
def zc_51 : List (Nat × List zE) := [(0, [(.aload_n 0, [], 0), (.getfield 12, [6, 0, 2], 0), (.aload_n 1, [], 0), (.iload_n 2, [], 0), (.invokevirtual 154, [149, 2, 3, 2, 0], 0), (.invokevirtual 332, [196, 2, 1, 4, 5], 0), (.ireturn, [0], 0)])]
/-- MindReaders.ofPair(II)I -/
def zc_52 : List (Nat × List zE) := [(0, [(.iload_n 0, [], 0), (.iconst (-1), [], 0), (.if_icmp .ne 5, [7, 1, 1], 0), (.iconst (-1), [], 0), (.ireturn, [0], 0)]),
  (7, [(.iload_n 1, [], 0), (.ifCond .ne 10, [18, 1], 0), (.iload_n 0, [], 0), (.bipush 8, [], 0), (.idiv, [], 0), (.goto 7, [22], 0)]),
  (18, [(.iload_n 0, [], 0), (.bipush 8, [], 0), (.irem, [], 0), (.nop, [22], 0)]),
  (22, [(.ireturn, [0], 0)])]
/-- MindReaders.dealtTo(LMindReaders$Code;I)I -/
def zc_53 : List (Nat × List zE) := [(0, [(.aload_n 0, [], 0), (.aload_n 1, [], 0), (.invokevirtual 190, [50, 2, 1, 2, 6], 0), (.istore_n 3, [], 0), (.iload_n 2, [], 0), (.ifCond .lt 8, [15], 0), (.iload_n 2, [], 0), (.iload_n 3, [], 0), (.if_icmp .lt 5, [17, 1, 1, 1, 1], 0), (.nop, [15], 0)]),
  (15, [(.iconst (-1), [], 0), (.ireturn, [0], 0)]),
  (17, [(.iconst 0, [], 0), (.istore 4, [], 0), (.iconst 0, [], 0), (.istore 5, [], 0), (.nop, [23, 1, 1, 1, 1, 1, 1], 0)]),
  (23, [(.iload 5, [], 0), (.iload_n 3, [], 0), (.if_icmp .ge 40, [66, 1, 1, 0, 1, 1], 0), (.aload_n 0, [], 0), (.getfield 21, [6, 1, 2], 0), (.iload 5, [], 0), (.invokevirtual 94, [172, 2, 1, 2, 3], 0), (.ineg, [], 0), (.iload 5, [], 0), (.aload_n 0, [], 0), (.getfield 21, [6, 1, 2], 0), (.iload_n 2, [], 0), (.invokevirtual 94, [172, 2, 1, 2, 3], 0), (.ineg, [], 0), (.iload_n 2, [], 0), (.invokestatic 335, [55, 4, 1, 4], 0), (.ifCond .eq 6, [60, 1, 1, 1, 1, 1, 1], 0), (.iinc 4 1, [], 0), (.nop, [60, 1, 1, 1, 1, 1, 1], 0)]),
  (60, [(.iinc 5 1, [], 0), (.goto (-40), [23, 1, 1, 1, 1, 1, 1], 0)]),
  (66, [(.iconst 0, [], 0), (.istore 5, [], 0), (.nop, [69, 1, 1, 0, 1, 1, 1], 0)]),
  (69, [(.iload 5, [], 0), (.iload_n 3, [], 0), (.if_icmp .ge 25, [97], 0), (.aload_n 0, [], 0), (.aload_n 1, [], 0), (.iload 5, [], 0), (.iload_n 3, [], 0), (.invokevirtual 339, [54, 4, 1, 6, 6], 0), (.iload 4, [], 0), (.if_icmp .ne 6, [91, 1, 1, 0, 1, 1, 1], 0), (.iload 5, [], 0), (.ireturn, [0], 0)]),
  (91, [(.iinc 5 1, [], 0), (.goto (-25), [69, 1, 1, 0, 1, 1, 1], 0)]),
  (97, [(.iconst (-1), [], 0), (.ireturn, [0], 0)])]
/-- MindReaders.rankByLong(LMindReaders$Code;II)I -/
def zc_54 : List (Nat × List zE) := [(0, [(.iconst 0, [], 0), (.istore 4, [], 0), (.iconst 0, [], 0), (.istore 5, [], 0), (.nop, [6, 1, 1, 1, 1, 1, 1], 0)]),
  (6, [(.iload 5, [], 0), (.iload_n 3, [], 0), (.if_icmp .ge 34, [43, 0, 0, 0, 0, 1], 0), (.aload_n 0, [], 0), (.aload_n 1, [], 0), (.iload 5, [], 0), (.invokevirtual 161, [51, 3, 1, 3, 6], 0), (.iload 5, [], 0), (.aload_n 0, [], 0), (.aload_n 1, [], 0), (.iload_n 2, [], 0), (.invokevirtual 161, [51, 3, 1, 3, 6], 0), (.iload_n 2, [], 0), (.invokestatic 335, [55, 4, 1, 4], 0), (.ifCond .eq 6, [37, 1, 1, 1, 1, 1, 1], 0), (.iinc 4 1, [], 0), (.nop, [37, 1, 1, 1, 1, 1, 1], 0)]),
  (37, [(.iinc 5 1, [], 0), (.goto (-34), [6, 1, 1, 1, 1, 1, 1], 0)]),
  (43, [(.iload 4, [], 0), (.ireturn, [0], 0)])]
/-- MindReaders.isAhead(IIII)Z -/
def zc_55 : List (Nat × List zE) := [(0, [(.iload_n 0, [], 0), (.iload_n 2, [], 0), (.if_icmp .lt 13, [15], 0), (.iload_n 0, [], 0), (.iload_n 2, [], 0), (.if_icmp .ne 12, [19], 0), (.iload_n 1, [], 0), (.iload_n 3, [], 0), (.if_icmp .ge 7, [19], 0), (.nop, [15], 0)]),
  (15, [(.iconst 1, [], 0), (.goto 4, [20], 0)]),
  (19, [(.iconst 0, [], 0), (.nop, [20], 0)]),
  (20, [(.ireturn, [1], 0)])]
/-- MindReaders.changeOf(LMindReaders$Code;LMindReaders$Code;)I -/
def zc_56 : List (Nat × List zE) := [(0, [(.iconst 0, [], 0), (.istore_n 3, [], 0), (.iconst 0, [], 0), (.istore 4, [], 0), (.nop, [5, 1, 1, 1, 1, 1], 0)]),
  (5, [(.iload 4, [], 0), (.aload_n 2, [], 0), (.invokevirtual 153, [148, 1, 1, 1, 0], 0), (.if_icmp .ge 46, [57, 0, 0, 0, 1], 0), (.iload 4, [], 0), (.aload_n 1, [], 0), (.invokevirtual 153, [148, 1, 1, 1, 0], 0), (.if_icmp .ge 21, [41, 1, 1, 1, 1, 1], 0), (.aload_n 1, [], 0), (.iload 4, [], 0), (.invokevirtual 154, [149, 2, 3, 2, 0], 0), (.aload_n 2, [], 0), (.iload 4, [], 0), (.invokevirtual 154, [149, 2, 3, 2, 0], 0), (.invokevirtual 342, [178, 2, 1, 2, 3], 0), (.ifCond .ne 13, [51, 1, 1, 1, 1, 1], 0), (.nop, [41, 1, 1, 1, 1, 1], 0)]),
  (41, [(.iload_n 3, [], 0), (.aload_n 0, [], 0), (.aload_n 2, [], 0), (.iload 4, [], 0), (.invokevirtual 161, [51, 3, 1, 3, 6], 0), (.iadd, [], 0), (.istore_n 3, [], 0), (.nop, [51, 1, 1, 1, 1, 1], 0)]),
  (51, [(.iinc 4 1, [], 0), (.goto (-49), [5, 1, 1, 1, 1, 1], 0)]),
  (57, [(.iload_n 3, [], 0), (.ireturn, [0], 0)])]
/-- MindReaders.notesLet(LMindReaders$Code;II)Z -/
def zc_57 : List (Nat × List zE) := [(0, [(.iconst 0, [], 0), (.istore 4, [], 0), (.nop, [3, 1, 1, 1, 1, 1], 0)]),
  (3, [(.iload 4, [], 0), (.aload_n 0, [], 0), (.getfield 37, [6, 5, 2], 0), (.invokevirtual 236, [159, 1, 1, 1, 1], 0), (.if_icmp .ge 76, [88], 0), (.aload_n 0, [], 0), (.getfield 37, [6, 5, 2], 0), (.iload 4, [], 0), (.invokevirtual 292, [160, 2, 1, 2, 1], 0), (.istore 5, [], 0), (.iload 5, [], 0), (.ifCond .lt 9, [37], 0), (.iload 5, [], 0), (.iload_n 2, [], 0), (.if_icmp .lt 5, [39, 1, 1, 1, 1, 1, 1], 0), (.nop, [37], 0)]),
  (37, [(.iconst 0, [], 0), (.ireturn, [1], 0)]),
  (39, [(.aload_n 0, [], 0), (.getfield 12, [6, 0, 2], 0), (.aload_n 0, [], 0), (.getfield 37, [6, 5, 2], 0), (.iload 4, [], 0), (.invokevirtual 295, [161, 2, 3, 2, 1], 0), (.iconst 0, [], 0), (.aload_n 0, [], 0), (.getfield 50, [6, 10, 2], 0), (.invokevirtual 324, [198, 4, 0, 7, 5], 0), (.aload_n 0, [], 0), (.getfield 50, [6, 10, 2], 0), (.aload_n 1, [], 0), (.iload 5, [], 0), (.iload_n 3, [], 0), (.iadd, [], 0), (.iload_n 2, [], 0), (.irem, [], 0), (.invokevirtual 158, [150, 2, 3, 2, 0], 0), (.invokevirtual 342, [178, 2, 1, 2, 3], 0), (.ifCond .ne 5, [82, 1, 1, 1, 1, 1], 0), (.iconst 0, [], 0), (.ireturn, [1], 0)]),
  (82, [(.iinc 4 1, [], 0), (.goto (-82), [3, 1, 1, 1, 1, 1], 0)]),
  (88, [(.iconst 1, [], 0), (.ireturn, [1], 0)])]
/-- MindReaders.leastLong(I)J -/
def zc_58 : List (Nat × List zE) := [(0, [(.aload_n 0, [], 0), (.getfield 53, [6, 11, 2], 0), (.aload_n 0, [], 0), (.getfield 21, [6, 1, 2], 0), (.invokevirtual 265, [177, 2, 0, 3, 3], 0), (.aload_n 0, [], 0), (.getfield 53, [6, 11, 2], 0), (.invokevirtual 77, [171, 1, 1, 1, 3], 0), (.iconst 2, [], 0), (.if_icmp .lt 8, [27], 0), (.iload_n 1, [], 0), (.iconst 2, [], 0), (.if_icmp .ge 5, [29, 1, 1], 0), (.nop, [27], 0)]),
  (27, [(.lconst 0, [], 0), (.lreturn, [], 0)]),
  (29, [(.lconst 0, [], 0), (.lstore_n 2, [], 0), (.iconst 2, [], 0), (.aload_n 0, [], 0), (.getfield 53, [6, 11, 2], 0), (.invokevirtual 77, [171, 1, 1, 1, 3], 0), (.iconst 2, [], 0), (.isub, [], 0), (.iload_n 1, [], 0), (.iconst 1, [], 0), (.isub, [], 0), (.irem, [], 0), (.iadd, [], 0), (.istore 4, [], 0), (.iconst 0, [], 0), (.istore 5, [], 0), (.nop, [51, 1, 1, 1, 0, 1, 1], 0)]),
  (51, [(.iload 5, [], 0), (.bipush 8, [], 0), (.if_icmp .ge 69, [124, 0, 0, 1], 0), (.aload_n 0, [], 0), (.getfield 53, [6, 11, 2], 0), (.invokevirtual 77, [171, 1, 1, 1, 3], 0), (.iconst 1, [], 0), (.if_icmp .le 58, [124, 0, 0, 1], 0), (.iconst 0, [], 0), (.istore 6, [], 0), (.iconst 0, [], 0), (.istore 7, [], 0), (.nop, [75, 1, 1, 1, 0, 1, 1, 1, 1], 0)]),
  (75, [(.iload 7, [], 0), (.iload 4, [], 0), (.if_icmp .ge 21, [100, 1, 1, 1, 0, 0, 1, 1], 0), (.iload 6, [], 0), (.aload_n 0, [], 0), (.getfield 53, [6, 11, 2], 0), (.invokevirtual 346, [183, 1, 1, 3, 3], 0), (.iadd, [], 0), (.istore 6, [], 0), (.iinc 7 1, [], 0), (.goto (-22), [75, 1, 1, 1, 0, 1, 1, 1, 1], 0)]),
  (100, [(.aload_n 0, [], 0), (.getfield 53, [6, 11, 2], 0), (.iload 6, [], 0), (.invokevirtual 85, [174, 2, 0, 2, 3], 0), (.lload_n 2, [], 0), (.iload 6, [], 0), (.i2l, [], 0), (.ladd, [], 0), (.lstore_n 2, [], 0), (.iload_n 1, [], 0), (.istore 4, [], 0), (.iinc 5 1, [], 0), (.goto (-70), [51, 1, 1, 1, 0, 1, 1], 0)]),
  (124, [(.lload_n 2, [], 0), (.lreturn, [], 0)])]
/-- MindReaders.waysNamed(LMindReaders$Code;III)J -/
def zc_59 : List (Nat × List zE) := [(0, [(.aload_n 1, [], 0), (.iload_n 2, [], 0), (.invokevirtual 158, [150, 2, 3, 2, 0], 0), (.astore 5, [], 0), (.aload_n 0, [], 0), (.getfield 50, [6, 10, 2], 0), (.invokevirtual 88, [176, 1, 0, 1, 3], 0), (.iconst 0, [], 0), (.istore 6, [], 0), (.nop, [17, 1, 1, 1, 1, 1, 1, 1], 0)]),
  (17, [(.iload 6, [], 0), (.aload 5, [], 0), (.invokevirtual 77, [171, 1, 1, 1, 3], 0), (.if_icmp .ge 17, [41, 1, 1, 1, 1, 1, 1], 0), (.aload_n 0, [], 0), (.getfield 50, [6, 10, 2], 0), (.iconst 0, [], 0), (.invokevirtual 85, [174, 2, 0, 2, 3], 0), (.iinc 6 1, [], 0), (.goto (-21), [17, 1, 1, 1, 1, 1, 1, 1], 0)]),
  (41, [(.lconst 0, [], 0), (.lstore 6, [], 0), (.iload_n 3, [], 0), (.i2l, [], 0), (.aload 5, [], 0), (.invokevirtual 77, [171, 1, 1, 1, 3], 0), (.invokestatic 229, [63, 2, 2, 6], 0), (.lstore 8, [], 0), (.iconst 0, [], 0), (.istore 10, [], 0), (.nop, [59, 1, 1, 1, 1, 1, 1, 1, 0, 1, 0, 1], 0)]),
  (59, [(.iload 10, [], 0), (.i2l, [], 0), (.lload 8, [], 0), (.lcmp, [], 0), (.ifCond .ge 54, [119, 0, 0, 0, 0, 0, 0, 1], 0), (.aload_n 0, [], 0), (.aload 5, [], 0), (.iload_n 3, [], 0), (.iload 4, [], 0), (.invokevirtual 349, [60, 4, 2, 7, 6], 0), (.lstore 11, [], 0), (.lload 11, [], 0), (.lconst 0, [], 0), (.lcmp, [], 0), (.ifCond .le 22, [105, 1, 1, 1, 1, 1, 1, 1, 0, 1, 0, 1], 0), (.aload_n 1, [], 0), (.aload_n 0, [], 0), (.getfield 50, [6, 10, 2], 0), (.invokevirtual 213, [157, 2, 1, 6, 0], 0), (.iload_n 2, [], 0), (.if_icmp .ne 10, [105, 1, 1, 1, 1, 1, 1, 1, 0, 1, 0, 1], 0), (.lload 6, [], 0), (.lload 11, [], 0), (.ladd, [], 0), (.lstore 6, [], 0), (.nop, [105, 1, 1, 1, 1, 1, 1, 1, 0, 1, 0, 1], 0)]),
  (105, [(.aload_n 0, [], 0), (.getfield 50, [6, 10, 2], 0), (.iload_n 3, [], 0), (.invokevirtual 353, [184, 2, 0, 4, 3], 0), (.iinc 10 1, [], 0), (.goto (-57), [59, 1, 1, 1, 1, 1, 1, 1, 0, 1, 0, 1], 0)]),
  (119, [(.lload 6, [], 0), (.lreturn, [], 0)])]
/-- MindReaders.waysHeard(LMindReaders$Row;II)J -/
def zc_60 : List (Nat × List zE) := [(0, [(.lconst 1, [], 0), (.lstore 4, [], 0), (.iconst 0, [], 0), (.istore 6, [], 0), (.nop, [6, 1, 1, 1, 1, 1, 0, 1], 0)]),
  (6, [(.iload 6, [], 0), (.aload_n 1, [], 0), (.invokevirtual 77, [171, 1, 1, 1, 3], 0), (.if_icmp .ge 46, [58, 0, 0, 0, 0, 1], 0), (.lload 4, [], 0), (.aload_n 0, [], 0), (.getfield 50, [6, 10, 2], 0), (.iload 6, [], 0), (.invokevirtual 94, [172, 2, 1, 2, 3], 0), (.aload_n 1, [], 0), (.iload 6, [], 0), (.invokevirtual 94, [172, 2, 1, 2, 3], 0), (.if_icmp .ne 15, [47, 1, 1, 1, 1, 0, 0, 1], 0), (.bipush 10, [], 0), (.iload_n 3, [], 0), (.isub, [], 0), (.iload_n 2, [], 0), (.iconst 1, [], 0), (.isub, [], 0), (.imul, [], 0), (.i2l, [], 0), (.goto 5, [49, 1, 1, 1, 1, 0, 0, 1], 0)]),
  (47, [(.iload_n 3, [], 0), (.i2l, [], 0), (.nop, [49, 1, 1, 1, 1, 0, 0, 1], 0)]),
  (49, [(.lmul, [], 0), (.lstore 4, [], 0), (.iinc 6 1, [], 0), (.goto (-49), [6, 1, 1, 1, 1, 1, 0, 1], 0)]),
  (58, [(.lload 4, [], 0), (.lreturn, [], 0)])]
/-- MindReaders.waysAllSeen(I)J -/
def zc_61 : List (Nat × List zE) := [(0, [(.aload_n 0, [], 0), (.getfield 21, [6, 1, 2], 0), (.invokevirtual 77, [171, 1, 1, 1, 3], 0), (.istore_n 2, [], 0), (.iload_n 2, [], 0), (.iload_n 1, [], 0), (.if_icmp .le 5, [15, 1, 1, 1], 0), (.lconst 0, [], 0), (.lreturn, [], 0)]),
  (15, [(.lconst 0, [], 0), (.lstore_n 3, [], 0), (.iconst 0, [], 0), (.istore 5, [], 0), (.nop, [20, 1, 1, 1, 1, 0, 1], 0)]),
  (20, [(.iload 5, [], 0), (.iconst 1, [], 0), (.iload_n 2, [], 0), (.ishl, [], 0), (.if_icmp .ge 94, [119, 0, 0, 0, 1], 0), (.iconst 0, [], 0), (.istore 6, [], 0), (.iconst 0, [], 0), (.istore 7, [], 0), (.nop, [34, 1, 1, 1, 1, 0, 1, 1, 1], 0)]),
  (34, [(.iload 7, [], 0), (.iload_n 2, [], 0), (.if_icmp .ge 31, [68, 1, 1, 1, 1, 0, 1, 1], 0), (.iload 6, [], 0), (.iload 5, [], 0), (.iload 7, [], 0), (.ishr, [], 0), (.iconst 1, [], 0), (.iand, [], 0), (.aload_n 0, [], 0), (.getfield 21, [6, 1, 2], 0), (.iload 7, [], 0), (.invokevirtual 94, [172, 2, 1, 2, 3], 0), (.imul, [], 0), (.iadd, [], 0), (.istore 6, [], 0), (.iinc 7 1, [], 0), (.goto (-31), [34, 1, 1, 1, 1, 0, 1, 1, 1], 0)]),
  (68, [(.iload_n 2, [], 0), (.iload 5, [], 0), (.invokestatic 260, [199, 1, 1, 1], 0), (.isub, [], 0), (.iconst 2, [], 0), (.irem, [], 0), (.ifCond .ne 7, [84, 1, 1, 1, 1, 0, 1, 1], 0), (.iconst 1, [], 0), (.goto 4, [85, 1, 1, 1, 1, 0, 1, 1], 0)]),
  (84, [(.iconst 0, [], 0), (.nop, [85, 1, 1, 1, 1, 0, 1, 1], 0)]),
  (85, [(.istore 7, [], 0), (.lload_n 3, [], 0), (.iload 7, [], 0), (.ifCond .eq 13, [103, 1, 1, 1, 0, 0, 1, 1], 0), (.iload 6, [], 0), (.i2l, [], 0), (.iload_n 1, [], 0), (.invokestatic 229, [63, 2, 2, 6], 0), (.goto 11, [111, 1, 1, 1, 0, 0, 1], 0)]),
  (103, [(.iload 6, [], 0), (.i2l, [], 0), (.iload_n 1, [], 0), (.invokestatic 229, [63, 2, 2, 6], 0), (.lneg, [], 0), (.nop, [111, 1, 1, 1, 0, 0, 1], 0)]),
  (111, [(.ladd, [], 0), (.lstore_n 3, [], 0), (.iinc 5 1, [], 0), (.goto (-96), [20, 1, 1, 1, 1, 0, 1], 0)]),
  (119, [(.lload_n 3, [], 0), (.lreturn, [], 0)])]
/-- MindReaders.choices(II)J -/
def zc_62 : List (Nat × List zE) := [(0, [(.lconst 1, [], 0), (.lstore_n 2, [], 0), (.iconst 1, [], 0), (.istore 4, [], 0), (.nop, [5, 1, 1, 1, 0, 1], 0)]),
  (5, [(.iload 4, [], 0), (.iload_n 1, [], 0), (.if_icmp .gt 23, [31, 0, 0, 1], 0), (.lload_n 2, [], 0), (.iload_n 0, [], 0), (.iload_n 1, [], 0), (.isub, [], 0), (.iload 4, [], 0), (.iadd, [], 0), (.i2l, [], 0), (.lmul, [], 0), (.iload 4, [], 0), (.i2l, [], 0), (.ldiv, [], 0), (.lstore_n 2, [], 0), (.iinc 4 1, [], 0), (.goto (-23), [5, 1, 1, 1, 0, 1], 0)]),
  (31, [(.lload_n 2, [], 0), (.lreturn, [], 0)])]
/-- MindReaders.power(JI)J -/
def zc_63 : List (Nat × List zE) := [(0, [(.lconst 1, [], 0), (.lstore_n 3, [], 0), (.iconst 0, [], 0), (.istore 5, [], 0), (.nop, [5, 1, 0, 1, 1, 0, 1], 0)]),
  (5, [(.iload 5, [], 0), (.iload_n 2, [], 0), (.if_icmp .ge 13, [21, 0, 0, 0, 1], 0), (.lload_n 3, [], 0), (.lload_n 0, [], 0), (.lmul, [], 0), (.lstore_n 3, [], 0), (.iinc 5 1, [], 0), (.goto (-13), [5, 1, 0, 1, 1, 0, 1], 0)]),
  (21, [(.lload_n 3, [], 0), (.lreturn, [], 0)])]
/-- MindReaders.lowest(JJI)J -/
def zc_64 : List (Nat × List zE) := [(0, [(.lload_n 0, [], 0), (.lstore 5, [], 0), (.lload_n 2, [], 0), (.lstore 7, [], 0), (.iconst 0, [], 0), (.istore 9, [], 0), (.nop, [9, 1, 0, 1, 0, 1, 1, 0, 1, 0, 1], 0)]),
  (9, [(.iload 9, [], 0), (.sipush 128, [], 0), (.if_icmp .ge 31, [45, 1, 0, 1, 0, 1, 1], 0), (.lload 7, [], 0), (.lconst 0, [], 0), (.lcmp, [], 0), (.ifCond .eq 24, [45, 1, 0, 1, 0, 1, 1], 0), (.lload 5, [], 0), (.lload 7, [], 0), (.lrem, [], 0), (.lstore 10, [], 0), (.lload 7, [], 0), (.lstore 5, [], 0), (.lload 10, [], 0), (.lstore 7, [], 0), (.iinc 9 1, [], 0), (.goto (-33), [9, 1, 0, 1, 0, 1, 1, 0, 1, 0, 1], 0)]),
  (45, [(.lload 5, [], 0), (.lconst 0, [], 0), (.lcmp, [], 0), (.ifCond .ne 5, [54, 1, 0, 1, 0, 1, 1], 0), (.lconst 0, [], 0), (.lreturn, [], 0)]),
  (54, [(.iload 4, [], 0), (.ifCond .ne 10, [66, 0, 0, 1, 0, 0, 1], 0), (.lload_n 0, [], 0), (.lload 5, [], 0), (.ldiv, [], 0), (.goto 7, [70], 0)]),
  (66, [(.lload_n 2, [], 0), (.lload 5, [], 0), (.ldiv, [], 0), (.nop, [70], 0)]),
  (70, [(.lreturn, [], 0)])]
/-- MindReaders.unlike(LMindReaders$Code;II)I -/
def zc_65 : List (Nat × List zE) := [(0, [(.iconst 0, [], 0), (.istore 4, [], 0), (.iconst 0, [], 0), (.istore 5, [], 0), (.nop, [6, 1, 1, 1, 1, 1, 1], 0)]),
  (6, [(.iload 5, [], 0), (.aload_n 1, [], 0), (.invokevirtual 153, [148, 1, 1, 1, 0], 0), (.if_icmp .ge 101, [113, 0, 0, 0, 0, 1], 0), (.iload 4, [], 0), (.iload_n 3, [], 0), (.if_icmp .ge 95, [113, 0, 0, 0, 0, 1], 0), (.aload_n 0, [], 0), (.getfield 12, [6, 0, 2], 0), (.aload_n 1, [], 0), (.iload 5, [], 0), (.invokevirtual 154, [149, 2, 3, 2, 0], 0), (.iload_n 2, [], 0), (.aload_n 0, [], 0), (.getfield 61, [6, 12, 2], 0), (.iload 5, [], 0), (.invokevirtual 356, [186, 2, 3, 3, 4], 0), (.invokevirtual 324, [198, 4, 0, 7, 5], 0), (.iconst 1, [], 0), (.istore 6, [], 0), (.iconst 0, [], 0), (.istore 7, [], 0), (.nop, [50, 1, 1, 1, 1, 1, 1, 1, 1], 0)]),
  (50, [(.iload 7, [], 0), (.iload 5, [], 0), (.if_icmp .ge 45, [99, 1, 1, 1, 1, 1, 1, 1], 0), (.iload 6, [], 0), (.ifCond .eq 40, [99, 1, 1, 1, 1, 1, 1, 1], 0), (.aload_n 0, [], 0), (.getfield 61, [6, 12, 2], 0), (.iload 7, [], 0), (.invokevirtual 356, [186, 2, 3, 3, 4], 0), (.aload_n 0, [], 0), (.getfield 61, [6, 12, 2], 0), (.iload 5, [], 0), (.invokevirtual 356, [186, 2, 3, 3, 4], 0), (.invokevirtual 342, [178, 2, 1, 2, 3], 0), (.ifCond .ne 7, [90, 1, 1, 1, 1, 1, 1, 0, 1], 0), (.iconst 1, [], 0), (.goto 4, [91, 1, 1, 1, 1, 1, 1, 0, 1], 0)]),
  (90, [(.iconst 0, [], 0), (.nop, [91, 1, 1, 1, 1, 1, 1, 0, 1], 0)]),
  (91, [(.istore 6, [], 0), (.iinc 7 1, [], 0), (.goto (-46), [50, 1, 1, 1, 1, 1, 1, 1, 1], 0)]),
  (99, [(.iload 6, [], 0), (.ifCond .eq 6, [107, 1, 1, 1, 1, 1, 1], 0), (.iinc 4 1, [], 0), (.nop, [107, 1, 1, 1, 1, 1, 1], 0)]),
  (107, [(.iinc 5 1, [], 0), (.goto (-104), [6, 1, 1, 1, 1, 1, 1], 0)]),
  (113, [(.iload 4, [], 0), (.ireturn, [0], 0)])]
/-- MindReadersModel.<init>()V -/
def zc_66 : List (Nat × List zE) := [(0, [(.aload_n 0, [], 0), (.invokespecial 1, [], 0), (.aload_n 0, [], 0), (.bipush 48, [], 0), (.newarray .int, [0], 0), (.putfield 7, [7, 0, 2], 0), (.aload_n 0, [], 0), (.bipush 48, [], 0), (.newarray .int, [0], 0), (.putfield 13, [7, 4, 2], 0), (.aload_n 0, [], 0), (.iconst 4, [], 0), (.newarray .int, [0], 0), (.putfield 16, [7, 6, 2], 0), (.aload_n 0, [], 0), (.sipush 192, [], 0), (.newarray .int, [0], 0), (.putfield 19, [7, 7, 2], 0), (.aload_n 0, [], 0), (.bipush 32, [], 0), (.newarray .int, [0], 0), (.putfield 22, [7, 9, 2], 0), (.aload_n 0, [], 0), (.bipush 8, [], 0), (.newarray .int, [0], 0), (.putfield 25, [7, 11, 2], 0), (.aload_n 0, [], 0), (.bipush 96, [], 0), (.newarray .int, [0], 0), (.putfield 28, [7, 12, 2], 0), (.aload_n 0, [], 0), (.bipush 88, [], 0), (.newarray .int, [0], 0), (.putfield 31, [7, 14, 2], 0), (.aload_n 0, [], 0), (.bipush 88, [], 0), (.newarray .int, [0], 0), (.putfield 34, [7, 15, 2], 0), (.aload_n 0, [], 0), (.bipush 16, [], 0), (.newarray .int, [0], 0), (.putfield 37, [7, 17, 2], 0), (.aload_n 0, [], 0), (.bipush 100, [], 0), (.newarray .int, [0], 0), (.putfield 40, [7, 19, 2], 0), (.aload_n 0, [], 0), (.sipush 256, [], 0), (.newarray .long, [1], 0), (.putfield 43, [7, 20, 2], 0), (.aload_n 0, [], 0), (.sipush 256, [], 0), (.newarray .long, [1], 0), (.putfield 47, [7, 21, 2], 0), (.aload_n 0, [], 0), (.bipush 8, [], 0), (.newarray .int, [0], 0), (.putfield 50, [7, 24, 2], 0), (.aload_n 0, [], 0), (.bipush 100, [], 0), (.newarray .int, [0], 0), (.putfield 53, [7, 25, 2], 0), (.aload_n 0, [], 0), (.iconst (-1), [], 0), (.putfield 56, [7, 22, 0], 0), (.return_, [], 0)])]
/-- MindReadersModel.in(JJJ)Z -/
def zc_67 : List (Nat × List zE) := [(0, [(.lload_n 0, [], 0), (.lload_n 2, [], 0), (.lcmp, [], 0), (.ifCond .lt 14, [17], 0), (.lload_n 0, [], 0), (.lload 4, [], 0), (.lcmp, [], 0), (.ifCond .gt 7, [17], 0), (.iconst 1, [], 0), (.goto 4, [18], 0)]),
  (17, [(.iconst 0, [], 0), (.nop, [18], 0)]),
  (18, [(.ireturn, [1], 0)])]
/-- MindReadersModel.letters(J)I -/
def zc_68 : List (Nat × List zE) := [(0, [(.iconst 0, [], 0), (.istore_n 3, [], 0), (.iconst 1, [], 0), (.istore 4, [], 0), (.lload_n 1, [], 0), (.lstore 5, [], 0), (.iconst 0, [], 0), (.istore 7, [], 0), (.nop, [11, 1, 1, 0, 1, 1, 1, 0, 1], 0)]),
  (11, [(.iload 7, [], 0), (.bipush 8, [], 0), (.if_icmp .ge 68, [83, 1, 1, 0, 1, 1], 0), (.lload 5, [], 0), (.ldc2_w 60, [], 255), (.land, [], 0), (.l2i, [], 0), (.istore 8, [], 0), (.lload 5, [], 0), (.bipush 8, [], 0), (.lushr, [], 0), (.lstore 5, [], 0), (.iload 4, [], 0), (.ifCond .eq 25, [61, 1, 1, 0, 1, 0, 1, 0, 1, 1], 0), (.iload 8, [], 0), (.bipush 126, [], 0), (.if_icmp .gt 18, [61, 1, 1, 0, 1, 0, 1, 0, 1, 1], 0), (.iload 8, [], 0), (.ifCond .eq 9, [57, 1, 1, 0, 1, 0, 1, 0, 1, 1], 0), (.iload_n 3, [], 0), (.iload 7, [], 0), (.if_icmp .ne 7, [61, 1, 1, 0, 1, 0, 1, 0, 1, 1], 0), (.nop, [57, 1, 1, 0, 1, 0, 1, 0, 1, 1], 0)]),
  (57, [(.iconst 1, [], 0), (.goto 4, [62, 1, 1, 0, 1, 0, 1, 0, 1, 1], 0)]),
  (61, [(.iconst 0, [], 0), (.nop, [62, 1, 1, 0, 1, 0, 1, 0, 1, 1], 0)]),
  (62, [(.istore 4, [], 0), (.iload_n 3, [], 0), (.iload 8, [], 0), (.ifCond .le 7, [74, 1, 1, 0, 0, 1, 1, 0, 1], 0), (.iconst 1, [], 0), (.goto 4, [75, 1, 1, 0, 0, 1, 1, 0, 1], 0)]),
  (74, [(.iconst 0, [], 0), (.nop, [75, 1, 1, 0, 0, 1, 1, 0, 1], 0)]),
  (75, [(.iadd, [], 0), (.istore_n 3, [], 0), (.iinc 7 1, [], 0), (.goto (-69), [11, 1, 1, 0, 1, 1, 1, 0, 1], 0)]),
  (83, [(.iload 4, [], 0), (.ifCond .ne 6, [91, 1, 1, 0, 1], 0), (.bipush (-102), [], 0), (.ireturn, [0], 0)]),
  (91, [(.aload_n 0, [], 0), (.getfield 62, [7, 1, 0], 0), (.iload_n 3, [], 0), (.iadd, [], 0), (.bipush 48, [], 0), (.if_icmp .le 6, [105, 1, 1, 0, 1], 0), (.bipush (-104), [], 0), (.ireturn, [0], 0)]),
  (105, [(.iconst 0, [], 0), (.istore 7, [], 0), (.nop, [108, 1, 1, 0, 1, 0, 0, 0, 1], 0)]),
  (108, [(.iload 7, [], 0), (.iload_n 3, [], 0), (.if_icmp .ge 40, [151, 1], 0), (.aload_n 0, [], 0), (.getfield 7, [7, 0, 2], 0), (.aload_n 0, [], 0), (.getfield 62, [7, 1, 0], 0), (.lload_n 1, [], 0), (.bipush 8, [], 0), (.iload 7, [], 0), (.imul, [], 0), (.lushr, [], 0), (.ldc2_w 60, [], 255), (.land, [], 0), (.l2i, [], 0), (.iastore, [], 0), (.aload_n 0, [], 0), (.dup, [], 0), (.getfield 62, [7, 1, 0], 0), (.iconst 1, [], 0), (.iadd, [], 0), (.putfield 62, [7, 1, 0], 0), (.iinc 7 1, [], 0), (.goto (-40), [108, 1, 1, 0, 1, 0, 0, 0, 1], 0)]),
  (151, [(.aload_n 0, [], 0), (.getfield 62, [7, 1, 0], 0), (.ireturn, [0], 0)])]
/-- MindReadersModel.blank()I -/
def zc_69 : List (Nat × List zE) := [(0, [(.aload_n 0, [], 0), (.getfield 62, [7, 1, 0], 0), (.istore_n 1, [], 0), (.aload_n 0, [], 0), (.iconst 0, [], 0), (.putfield 62, [7, 1, 0], 0), (.iload_n 1, [], 0), (.ireturn, [0], 0)])]
/-- MindReadersModel.go(I)Z -/
def zc_70 : List (Nat × List zE) := [(0, [(.iload_n 1, [], 0), (.bipush 44, [], 0), (.if_icmp .ne 42, [45, 1, 1], 0), (.aload_n 0, [], 0), (.getfield 65, [7, 3, 0], 0), (.ifCond .le 16, [26, 1], 0), (.aload_n 0, [], 0), (.getfield 68, [7, 2, 0], 0), (.bipush 7, [], 0), (.if_icmp .ge 7, [26, 1], 0), (.iconst 1, [], 0), (.goto 4, [27, 1], 0)]),
  (26, [(.iconst 0, [], 0), (.nop, [27, 1], 0)]),
  (27, [(.istore_n 2, [], 0), (.aload_n 0, [], 0), (.dup, [], 0), (.getfield 68, [7, 2, 0], 0), (.iconst 1, [], 0), (.iadd, [], 0), (.putfield 68, [7, 2, 0], 0), (.aload_n 0, [], 0), (.iconst 0, [], 0), (.putfield 65, [7, 3, 0], 0), (.iload_n 2, [], 0), (.ireturn, [1], 0)]),
  (45, [(.iload_n 1, [], 0), (.i2l, [], 0), (.ldc2_w 71, [], 97), (.ldc2_w 73, [], 104), (.invokestatic 75, [67, 3, 1, 6], 0), (.ifCond .eq 15, [71, 1, 1], 0), (.aload_n 0, [], 0), (.getfield 65, [7, 3, 0], 0), (.iconst 5, [], 0), (.if_icmp .ge 7, [71, 1, 1], 0), (.iconst 1, [], 0), (.goto 4, [72, 1, 1], 0)]),
  (71, [(.iconst 0, [], 0), (.nop, [72, 1, 1], 0)]),
  (72, [(.istore_n 2, [], 0), (.iload_n 2, [], 0), (.ifCond .eq 50, [124, 0, 0, 1], 0), (.aload_n 0, [], 0), (.dup, [], 0), (.getfield 65, [7, 3, 0], 0), (.iconst 1, [], 0), (.iadd, [], 0), (.putfield 65, [7, 3, 0], 0), (.aload_n 0, [], 0), (.getfield 13, [7, 4, 2], 0), (.bipush 6, [], 0), (.aload_n 0, [], 0), (.getfield 68, [7, 2, 0], 0), (.imul, [], 0), (.aload_n 0, [], 0), (.getfield 65, [7, 3, 0], 0), (.iastore, [], 0), (.aload_n 0, [], 0), (.getfield 13, [7, 4, 2], 0), (.bipush 6, [], 0), (.aload_n 0, [], 0), (.getfield 68, [7, 2, 0], 0), (.imul, [], 0), (.aload_n 0, [], 0), (.getfield 65, [7, 3, 0], 0), (.iadd, [], 0), (.iload_n 1, [], 0), (.bipush 97, [], 0), (.isub, [], 0), (.iastore, [], 0), (.nop, [124, 0, 0, 1], 0)]),
  (124, [(.iload_n 2, [], 0), (.ireturn, [1], 0)])]
/-- MindReadersModel.faultOf()I -/
def zc_71 : List (Nat × List zE) := [(0, [(.aload_n 0, [], 0), (.iconst 0, [], 0), (.putfield 68, [7, 2, 0], 0), (.aload_n 0, [], 0), (.iconst 0, [], 0), (.putfield 65, [7, 3, 0], 0), (.iconst 0, [], 0), (.istore_n 1, [], 0), (.nop, [12, 1, 1], 0)]),
  (12, [(.iload_n 1, [], 0), (.aload_n 0, [], 0), (.getfield 62, [7, 1, 0], 0), (.if_icmp .ge 22, [39, 0, 1], 0), (.aload_n 0, [], 0), (.aload_n 0, [], 0), (.getfield 7, [7, 0, 2], 0), (.iload_n 1, [], 0), (.iaload, [], 0), (.invokevirtual 79, [70, 2, 1, 3, 7], 0), (.ifCond .eq 9, [39, 0, 1], 0), (.iinc 1 1, [], 0), (.goto (-24), [12, 1, 1], 0)]),
  (39, [(.iload_n 1, [], 0), (.ireturn, [0], 0)])]
/-- MindReadersModel.fault()I -/
def zc_72 : List (Nat × List zE) := [(0, [(.aload_n 0, [], 0), (.invokevirtual 83, [71, 1, 1, 2, 7], 0), (.ireturn, [0], 0)])]
/-- MindReadersModel.code()I -/
def zc_73 : List (Nat × List zE) := [(0, [(.aload_n 0, [], 0), (.invokevirtual 83, [71, 1, 1, 2, 7], 0), (.aload_n 0, [], 0), (.getfield 62, [7, 1, 0], 0), (.if_icmp .lt 10, [18], 0), (.aload_n 0, [], 0), (.getfield 65, [7, 3, 0], 0), (.ifCond .ne 6, [21, 1], 0), (.nop, [18], 0)]),
  (18, [(.bipush (-103), [], 0), (.ireturn, [0], 0)]),
  (21, [(.aload_n 0, [], 0), (.getfield 87, [7, 5, 0], 0), (.iconst 4, [], 0), (.if_icmp .ne 6, [32, 1], 0), (.bipush (-104), [], 0), (.ireturn, [0], 0)]),
  (32, [(.aload_n 0, [], 0), (.getfield 16, [7, 6, 2], 0), (.aload_n 0, [], 0), (.getfield 87, [7, 5, 0], 0), (.aload_n 0, [], 0), (.getfield 68, [7, 2, 0], 0), (.iconst 1, [], 0), (.iadd, [], 0), (.iastore, [], 0), (.iconst 0, [], 0), (.istore_n 1, [], 0), (.nop, [49, 1, 1], 0)]),
  (49, [(.iload_n 1, [], 0), (.bipush 48, [], 0), (.if_icmp .ge 29, [81, 1], 0), (.aload_n 0, [], 0), (.getfield 19, [7, 7, 2], 0), (.bipush 48, [], 0), (.aload_n 0, [], 0), (.getfield 87, [7, 5, 0], 0), (.imul, [], 0), (.iload_n 1, [], 0), (.iadd, [], 0), (.aload_n 0, [], 0), (.getfield 13, [7, 4, 2], 0), (.iload_n 1, [], 0), (.iaload, [], 0), (.iastore, [], 0), (.iinc 1 1, [], 0), (.goto (-29), [49, 1, 1], 0)]),
  (81, [(.aload_n 0, [], 0), (.dup, [], 0), (.getfield 87, [7, 5, 0], 0), (.iconst 1, [], 0), (.iadd, [], 0), (.putfield 87, [7, 5, 0], 0), (.aload_n 0, [], 0), (.iconst 0, [], 0), (.putfield 62, [7, 1, 0], 0), (.aload_n 0, [], 0), (.getfield 87, [7, 5, 0], 0), (.iconst 1, [], 0), (.isub, [], 0), (.ireturn, [0], 0)])]
/-- MindReadersModel.isCode(I)Z -/
def zc_74 : List (Nat × List zE) := [(0, [(.iload_n 1, [], 0), (.i2l, [], 0), (.lconst 0, [], 0), (.aload_n 0, [], 0), (.getfield 87, [7, 5, 0], 0), (.iconst 1, [], 0), (.isub, [], 0), (.i2l, [], 0), (.invokestatic 75, [67, 3, 1, 6], 0), (.ireturn, [1], 0)])]
/-- MindReadersModel.signal(IIII)I -/
def zc_75 : List (Nat × List zE) := [(0, [(.iload_n 1, [], 0), (.i2l, [], 0), (.lconst 0, [], 0), (.ldc2_w 90, [], 4), (.invokestatic 75, [67, 3, 1, 6], 0), (.ifCond .ne 6, [15, 1, 1, 1, 1, 1], 0), (.bipush (-102), [], 0), (.ireturn, [0], 0)]),
  (15, [(.iload_n 1, [], 0), (.iconst 2, [], 0), (.if_icmp .ne 39, [56, 1, 1, 1, 1, 1], 0), (.iload_n 2, [], 0), (.i2l, [], 0), (.lconst 0, [], 0), (.aload_n 0, [], 0), (.getfield 92, [7, 8, 0], 0), (.iconst 1, [], 0), (.isub, [], 0), (.i2l, [], 0), (.invokestatic 75, [67, 3, 1, 6], 0), (.ifCond .eq 19, [52, 1, 1, 1, 1, 1], 0), (.aload_n 0, [], 0), (.getfield 22, [7, 9, 2], 0), (.iconst 4, [], 0), (.iload_n 2, [], 0), (.imul, [], 0), (.iaload, [], 0), (.iconst 2, [], 0), (.if_icmp .ge 7, [52, 1, 1, 1, 1, 1], 0), (.iconst 1, [], 0), (.goto 17, [66, 1, 1, 1, 1, 1], 0)]),
  (52, [(.iconst 0, [], 0), (.goto 13, [66, 1, 1, 1, 1, 1], 0)]),
  (56, [(.iload_n 2, [], 0), (.iconst (-1), [], 0), (.if_icmp .ne 7, [65, 1, 1, 1, 1, 1], 0), (.iconst 1, [], 0), (.goto 4, [66, 1, 1, 1, 1, 1], 0)]),
  (65, [(.iconst 0, [], 0), (.nop, [66, 1, 1, 1, 1, 1], 0)]),
  (66, [(.istore 5, [], 0), (.iload 5, [], 0), (.ifCond .ne 6, [76, 1, 1, 1, 1, 1], 0), (.bipush (-101), [], 0), (.ireturn, [0], 0)]),
  (76, [(.iload_n 3, [], 0), (.i2l, [], 0), (.lconst 1, [], 0), (.ldc2_w 95, [], 9), (.invokestatic 75, [67, 3, 1, 6], 0), (.ifCond .eq 16, [101], 0), (.iload 4, [], 0), (.i2l, [], 0), (.lconst 0, [], 0), (.ldc2_w 95, [], 9), (.invokestatic 75, [67, 3, 1, 6], 0), (.ifCond .ne 6, [104, 1, 1, 1, 1, 1], 0), (.nop, [101], 0)]),
  (101, [(.bipush (-102), [], 0), (.ireturn, [0], 0)]),
  (104, [(.aload_n 0, [], 0), (.getfield 92, [7, 8, 0], 0), (.bipush 8, [], 0), (.if_icmp .ne 6, [116, 1, 1, 1, 1, 1], 0), (.bipush (-104), [], 0), (.ireturn, [0], 0)]),
  (116, [(.aload_n 0, [], 0), (.getfield 22, [7, 9, 2], 0), (.iconst 4, [], 0), (.aload_n 0, [], 0), (.getfield 92, [7, 8, 0], 0), (.imul, [], 0), (.iload_n 1, [], 0), (.iastore, [], 0), (.aload_n 0, [], 0), (.getfield 22, [7, 9, 2], 0), (.iconst 4, [], 0), (.aload_n 0, [], 0), (.getfield 92, [7, 8, 0], 0), (.imul, [], 0), (.iconst 1, [], 0), (.iadd, [], 0), (.iload_n 2, [], 0), (.iastore, [], 0), (.aload_n 0, [], 0), (.getfield 22, [7, 9, 2], 0), (.iconst 4, [], 0), (.aload_n 0, [], 0), (.getfield 92, [7, 8, 0], 0), (.imul, [], 0), (.iconst 2, [], 0), (.iadd, [], 0), (.iload_n 3, [], 0), (.iastore, [], 0), (.aload_n 0, [], 0), (.getfield 22, [7, 9, 2], 0), (.iconst 4, [], 0), (.aload_n 0, [], 0), (.getfield 92, [7, 8, 0], 0), (.imul, [], 0), (.iconst 3, [], 0), (.iadd, [], 0), (.iload 4, [], 0), (.iastore, [], 0), (.aload_n 0, [], 0), (.dup, [], 0), (.getfield 92, [7, 8, 0], 0), (.iconst 1, [], 0), (.iadd, [], 0), (.putfield 92, [7, 8, 0], 0), (.aload_n 0, [], 0), (.getfield 92, [7, 8, 0], 0), (.iconst 1, [], 0), (.isub, [], 0), (.ireturn, [0], 0)])]
/-- MindReadersModel.isSignal(I)Z -/
def zc_76 : List (Nat × List zE) := [(0, [(.iload_n 1, [], 0), (.i2l, [], 0), (.lconst 0, [], 0), (.aload_n 0, [], 0), (.getfield 92, [7, 8, 0], 0), (.iconst 1, [], 0), (.isub, [], 0), (.i2l, [], 0), (.invokestatic 75, [67, 3, 1, 6], 0), (.ireturn, [1], 0)])]
/-- MindReadersModel.as(II)I -/
def zc_77 : List (Nat × List zE) := [(0, [(.aload_n 0, [], 0), (.iload_n 1, [], 0), (.invokevirtual 97, [76, 2, 1, 2, 7], 0), (.ifCond .ne 6, [11, 1, 1, 1], 0), (.bipush (-101), [], 0), (.ireturn, [0], 0)]),
  (11, [(.iload_n 2, [], 0), (.i2l, [], 0), (.lconst 0, [], 0), (.ldc2_w 90, [], 4), (.invokestatic 75, [67, 3, 1, 6], 0), (.ifCond .ne 6, [26, 1, 1, 1], 0), (.bipush (-102), [], 0), (.ireturn, [0], 0)]),
  (26, [(.aload_n 0, [], 0), (.getfield 22, [7, 9, 2], 0), (.iconst 4, [], 0), (.iload_n 1, [], 0), (.imul, [], 0), (.iaload, [], 0), (.istore_n 3, [], 0), (.iload_n 2, [], 0), (.ifCond .eq 18, [54, 0, 1], 0), (.iload_n 2, [], 0), (.iload_n 3, [], 0), (.if_icmp .eq 13, [54, 0, 1], 0), (.iload_n 2, [], 0), (.iconst 1, [], 0), (.if_icmp .ne 12, [58, 0, 1], 0), (.iload_n 3, [], 0), (.iconst 2, [], 0), (.if_icmp .ne 7, [58, 0, 1], 0), (.nop, [54, 0, 1], 0)]),
  (54, [(.iconst 1, [], 0), (.goto 4, [59, 0, 1], 0)]),
  (58, [(.iconst 0, [], 0), (.nop, [59, 0, 1], 0)]),
  (59, [(.istore 4, [], 0), (.iload 4, [], 0), (.ifCond .eq 7, [70], 0), (.iload_n 1, [], 0), (.goto 4, [71], 0)]),
  (70, [(.iconst (-1), [], 0), (.nop, [71], 0)]),
  (71, [(.ireturn, [0], 0)])]
/-- MindReadersModel.about(II)I -/
def zc_78 : List (Nat × List zE) := [(0, [(.aload_n 0, [], 0), (.iload_n 1, [], 0), (.invokevirtual 97, [76, 2, 1, 2, 7], 0), (.ifCond .ne 6, [11, 1, 1, 1], 0), (.bipush (-101), [], 0), (.ireturn, [0], 0)]),
  (11, [(.iload_n 2, [], 0), (.i2l, [], 0), (.lconst 0, [], 0), (.ldc2_w 100, [], 3), (.invokestatic 75, [67, 3, 1, 6], 0), (.ifCond .eq 16, [36], 0), (.aload_n 0, [], 0), (.getfield 22, [7, 9, 2], 0), (.iconst 4, [], 0), (.iload_n 1, [], 0), (.imul, [], 0), (.iload_n 2, [], 0), (.iadd, [], 0), (.iaload, [], 0), (.goto 5, [38], 0)]),
  (36, [(.bipush (-102), [], 0), (.nop, [38], 0)]),
  (38, [(.ireturn, [0], 0)])]
/-- MindReadersModel.thing(I)I -/
def zc_79 : List (Nat × List zE) := [(0, [(.iload_n 1, [], 0), (.i2l, [], 0), (.lconst 1, [], 0), (.ldc2_w 102, [], 99), (.invokestatic 75, [67, 3, 1, 6], 0), (.ifCond .ne 6, [15, 1, 1], 0), (.bipush (-102), [], 0), (.ireturn, [0], 0)]),
  (15, [(.aload_n 0, [], 0), (.getfield 104, [7, 10, 0], 0), (.bipush 8, [], 0), (.if_icmp .ne 6, [27, 1, 1], 0), (.bipush (-104), [], 0), (.ireturn, [0], 0)]),
  (27, [(.aload_n 0, [], 0), (.getfield 25, [7, 11, 2], 0), (.aload_n 0, [], 0), (.getfield 104, [7, 10, 0], 0), (.iload_n 1, [], 0), (.iastore, [], 0), (.aload_n 0, [], 0), (.dup, [], 0), (.getfield 104, [7, 10, 0], 0), (.iconst 1, [], 0), (.iadd, [], 0), (.putfield 104, [7, 10, 0], 0), (.aload_n 0, [], 0), (.getfield 104, [7, 10, 0], 0), (.iconst 1, [], 0), (.isub, [], 0), (.ireturn, [0], 0)])]
/-- MindReadersModel.isThing(I)Z -/
def zc_80 : List (Nat × List zE) := [(0, [(.iload_n 1, [], 0), (.i2l, [], 0), (.lconst 0, [], 0), (.aload_n 0, [], 0), (.getfield 104, [7, 10, 0], 0), (.iconst 1, [], 0), (.isub, [], 0), (.i2l, [], 0), (.invokestatic 75, [67, 3, 1, 6], 0), (.ireturn, [1], 0)])]
/-- MindReadersModel.weigh(II)I -/
def zc_81 : List (Nat × List zE) := [(0, [(.aload_n 0, [], 0), (.iload_n 1, [], 0), (.invokevirtual 107, [80, 2, 1, 2, 7], 0), (.ifCond .ne 6, [11, 1, 1, 1], 0), (.bipush (-101), [], 0), (.ireturn, [0], 0)]),
  (11, [(.iload_n 2, [], 0), (.i2l, [], 0), (.lconst 1, [], 0), (.ldc2_w 102, [], 99), (.invokestatic 75, [67, 3, 1, 6], 0), (.ifCond .ne 6, [26, 1, 1, 1], 0), (.bipush (-102), [], 0), (.ireturn, [0], 0)]),
  (26, [(.aload_n 0, [], 0), (.getfield 25, [7, 11, 2], 0), (.iload_n 1, [], 0), (.iaload, [], 0), (.istore_n 3, [], 0), (.aload_n 0, [], 0), (.getfield 25, [7, 11, 2], 0), (.iload_n 1, [], 0), (.iload_n 2, [], 0), (.iastore, [], 0), (.iload_n 3, [], 0), (.ireturn, [0], 0)])]
/-- MindReadersModel.kindOf(I)I -/
def zc_82 : List (Nat × List zE) := [(0, [(.aload_n 0, [], 0), (.iload_n 1, [], 0), (.invokevirtual 97, [76, 2, 1, 2, 7], 0), (.ifCond .eq 14, [19], 0), (.aload_n 0, [], 0), (.getfield 22, [7, 9, 2], 0), (.iconst 4, [], 0), (.iload_n 1, [], 0), (.imul, [], 0), (.iaload, [], 0), (.goto 4, [20], 0)]),
  (19, [(.iconst 0, [], 0), (.nop, [20], 0)]),
  (20, [(.ireturn, [0], 0)])]
/-- MindReadersModel.secondsOf(I)I -/
def zc_83 : List (Nat × List zE) := [(0, [(.aload_n 0, [], 0), (.iload_n 1, [], 0), (.invokevirtual 97, [76, 2, 1, 2, 7], 0), (.ifCond .eq 16, [21], 0), (.aload_n 0, [], 0), (.getfield 22, [7, 9, 2], 0), (.iconst 4, [], 0), (.iload_n 1, [], 0), (.imul, [], 0), (.iconst 2, [], 0), (.iadd, [], 0), (.iaload, [], 0), (.goto 4, [22], 0)]),
  (21, [(.iconst 1, [], 0), (.nop, [22], 0)]),
  (22, [(.ireturn, [0], 0)])]
/-- MindReadersModel.oddOf(I)I -/
def zc_84 : List (Nat × List zE) := [(0, [(.aload_n 0, [], 0), (.iload_n 1, [], 0), (.invokevirtual 97, [76, 2, 1, 2, 7], 0), (.ifCond .eq 16, [21], 0), (.aload_n 0, [], 0), (.getfield 22, [7, 9, 2], 0), (.iconst 4, [], 0), (.iload_n 1, [], 0), (.imul, [], 0), (.iconst 3, [], 0), (.iadd, [], 0), (.iaload, [], 0), (.goto 4, [22], 0)]),
  (21, [(.iconst 0, [], 0), (.nop, [22], 0)]),
  (22, [(.ireturn, [0], 0)])]
/-- MindReadersModel.stand(I)V -/
def zc_85 : List (Nat × List zE) := [(0, [(.aload_n 0, [], 0), (.iload_n 1, [], 0), (.invokevirtual 110, [82, 2, 1, 2, 7], 0), (.istore_n 2, [], 0), (.iload_n 2, [], 0), (.iconst 2, [], 0), (.if_icmp .ge 26, [34, 1, 1, 1], 0), (.aload_n 0, [], 0), (.getfield 28, [7, 12, 2], 0), (.aload_n 0, [], 0), (.getfield 114, [7, 13, 0], 0), (.iload_n 1, [], 0), (.iastore, [], 0), (.aload_n 0, [], 0), (.dup, [], 0), (.getfield 114, [7, 13, 0], 0), (.iconst 1, [], 0), (.iadd, [], 0), (.putfield 114, [7, 13, 0], 0), (.goto 83, [114], 0)]),
  (34, [(.iload_n 2, [], 0), (.iconst 2, [], 0), (.if_icmp .ne 56, [92, 1, 0, 1], 0), (.aload_n 0, [], 0), (.getfield 28, [7, 12, 2], 0), (.aload_n 0, [], 0), (.getfield 114, [7, 13, 0], 0), (.aload_n 0, [], 0), (.getfield 22, [7, 9, 2], 0), (.iconst 4, [], 0), (.iload_n 1, [], 0), (.imul, [], 0), (.iconst 1, [], 0), (.iadd, [], 0), (.iaload, [], 0), (.iastore, [], 0), (.aload_n 0, [], 0), (.getfield 28, [7, 12, 2], 0), (.aload_n 0, [], 0), (.getfield 114, [7, 13, 0], 0), (.iconst 1, [], 0), (.iadd, [], 0), (.aload_n 0, [], 0), (.getfield 22, [7, 9, 2], 0), (.iconst 4, [], 0), (.iload_n 1, [], 0), (.imul, [], 0), (.iconst 1, [], 0), (.iadd, [], 0), (.iaload, [], 0), (.iastore, [], 0), (.aload_n 0, [], 0), (.dup, [], 0), (.getfield 114, [7, 13, 0], 0), (.iconst 2, [], 0), (.iadd, [], 0), (.putfield 114, [7, 13, 0], 0), (.goto 25, [114], 0)]),
  (92, [(.iload_n 2, [], 0), (.iconst 4, [], 0), (.if_icmp .ne 20, [114], 0), (.aload_n 0, [], 0), (.getfield 114, [7, 13, 0], 0), (.ifCond .le 13, [114], 0), (.aload_n 0, [], 0), (.dup, [], 0), (.getfield 114, [7, 13, 0], 0), (.iconst 1, [], 0), (.isub, [], 0), (.putfield 114, [7, 13, 0], 0), (.nop, [114], 0)]),
  (114, [(.return_, [], 0)])]
/-- MindReadersModel.layPlain(III)V -/
def zc_86 : List (Nat × List zE) := [(0, [(.bipush 48, [], 0), (.iload_n 1, [], 0), (.imul, [], 0), (.bipush 6, [], 0), (.iload_n 2, [], 0), (.imul, [], 0), (.iadd, [], 0), (.istore 4, [], 0), (.aload_n 0, [], 0), (.iconst 0, [], 0), (.putfield 114, [7, 13, 0], 0), (.iconst 1, [], 0), (.istore 5, [], 0), (.nop, [19, 1, 0, 0, 1, 1, 1], 0)]),
  (19, [(.iload 5, [], 0), (.aload_n 0, [], 0), (.getfield 19, [7, 7, 2], 0), (.iload 4, [], 0), (.iaload, [], 0), (.if_icmp .gt 40, [68], 0), (.iload_n 3, [], 0), (.aload_n 0, [], 0), (.getfield 19, [7, 7, 2], 0), (.iload 4, [], 0), (.iload 5, [], 0), (.iadd, [], 0), (.iaload, [], 0), (.ishr, [], 0), (.iconst 1, [], 0), (.iand, [], 0), (.ifCond .ne 17, [62, 1, 0, 0, 1, 1, 1], 0), (.aload_n 0, [], 0), (.aload_n 0, [], 0), (.getfield 19, [7, 7, 2], 0), (.iload 4, [], 0), (.iload 5, [], 0), (.iadd, [], 0), (.iaload, [], 0), (.invokevirtual 117, [85, 2, 0, 3, 7], 0), (.nop, [62, 1, 0, 0, 1, 1, 1], 0)]),
  (62, [(.iinc 5 1, [], 0), (.goto (-46), [19, 1, 0, 0, 1, 1, 1], 0)]),
  (68, [(.return_, [], 0)])]
/-- MindReadersModel.layAll(II)V -/
def zc_87 : List (Nat × List zE) := [(0, [(.iconst 0, [], 0), (.istore_n 3, [], 0), (.nop, [2, 1, 1, 1, 1], 0)]),
  (2, [(.iload_n 3, [], 0), (.aload_n 0, [], 0), (.getfield 16, [7, 6, 2], 0), (.iload_n 1, [], 0), (.iaload, [], 0), (.if_icmp .ge 68, [77], 0), (.aload_n 0, [], 0), (.iload_n 1, [], 0), (.iload_n 3, [], 0), (.iload_n 2, [], 0), (.invokevirtual 121, [86, 4, 0, 6, 7], 0), (.aload_n 0, [], 0), (.getfield 31, [7, 14, 2], 0), (.bipush 11, [], 0), (.iload_n 3, [], 0), (.imul, [], 0), (.aload_n 0, [], 0), (.getfield 114, [7, 13, 0], 0), (.iastore, [], 0), (.iconst 0, [], 0), (.istore 4, [], 0), (.nop, [35, 1, 1, 1, 1, 1], 0)]),
  (35, [(.iload 4, [], 0), (.aload_n 0, [], 0), (.getfield 114, [7, 13, 0], 0), (.if_icmp .ge 30, [71, 1, 1, 1, 1], 0), (.aload_n 0, [], 0), (.getfield 31, [7, 14, 2], 0), (.bipush 11, [], 0), (.iload_n 3, [], 0), (.imul, [], 0), (.iconst 1, [], 0), (.iadd, [], 0), (.iload 4, [], 0), (.iadd, [], 0), (.aload_n 0, [], 0), (.getfield 28, [7, 12, 2], 0), (.iload 4, [], 0), (.iaload, [], 0), (.iastore, [], 0), (.iinc 4 1, [], 0), (.goto (-33), [35, 1, 1, 1, 1, 1], 0)]),
  (71, [(.iinc 3 1, [], 0), (.goto (-72), [2, 1, 1, 1, 1], 0)]),
  (77, [(.return_, [], 0)])]
/-- MindReadersModel.longOf(II)I -/
def zc_88 : List (Nat × List zE) := [(0, [(.bipush 48, [], 0), (.iload_n 1, [], 0), (.imul, [], 0), (.bipush 6, [], 0), (.iload_n 2, [], 0), (.imul, [], 0), (.iadd, [], 0), (.istore_n 3, [], 0), (.iconst 0, [], 0), (.istore 4, [], 0), (.iconst 1, [], 0), (.istore 5, [], 0), (.nop, [16, 1, 0, 0, 1, 1, 1], 0)]),
  (16, [(.iload 5, [], 0), (.aload_n 0, [], 0), (.getfield 19, [7, 7, 2], 0), (.iload_n 3, [], 0), (.iaload, [], 0), (.if_icmp .gt 27, [51, 0, 0, 0, 0, 1], 0), (.iload 4, [], 0), (.aload_n 0, [], 0), (.aload_n 0, [], 0), (.getfield 19, [7, 7, 2], 0), (.iload_n 3, [], 0), (.iload 5, [], 0), (.iadd, [], 0), (.iaload, [], 0), (.invokevirtual 125, [83, 2, 1, 2, 7], 0), (.iadd, [], 0), (.istore 4, [], 0), (.iinc 5 1, [], 0), (.goto (-32), [16, 1, 0, 0, 1, 1, 1], 0)]),
  (51, [(.iload 4, [], 0), (.ireturn, [0], 0)])]
/-- MindReadersModel.speechOf(III)I -/
def zc_89 : List (Nat × List zE) := [(0, [(.bipush 48, [], 0), (.iload_n 1, [], 0), (.imul, [], 0), (.bipush 6, [], 0), (.iload_n 2, [], 0), (.imul, [], 0), (.iadd, [], 0), (.istore 4, [], 0), (.iload_n 3, [], 0), (.i2l, [], 0), (.lconst 0, [], 0), (.ldc2_w 128, [], 5), (.invokestatic 75, [67, 3, 1, 6], 0), (.ifCond .eq 28, [48, 1, 1, 1, 1], 0), (.iload_n 3, [], 0), (.aload_n 0, [], 0), (.getfield 19, [7, 7, 2], 0), (.iload 4, [], 0), (.iaload, [], 0), (.if_icmp .gt 15, [46], 0), (.aload_n 0, [], 0), (.getfield 19, [7, 7, 2], 0), (.iload 4, [], 0), (.iload_n 3, [], 0), (.iadd, [], 0), (.iaload, [], 0), (.goto 4, [47], 0)]),
  (46, [(.iconst (-1), [], 0), (.nop, [47], 0)]),
  (47, [(.ireturn, [0], 0)]),
  (48, [(.aload_n 0, [], 0), (.iload_n 1, [], 0), (.iload_n 2, [], 0), (.iconst 0, [], 0), (.invokevirtual 121, [86, 4, 0, 6, 7], 0), (.iload_n 3, [], 0), (.i2l, [], 0), (.ldc2_w 130, [], 11), (.ldc2_w 132, [], 20), (.invokestatic 75, [67, 3, 1, 6], 0), (.ifCond .eq 28, [94, 1, 1, 1, 1], 0), (.iload_n 3, [], 0), (.bipush 11, [], 0), (.isub, [], 0), (.aload_n 0, [], 0), (.getfield 114, [7, 13, 0], 0), (.if_icmp .ge 15, [92], 0), (.aload_n 0, [], 0), (.getfield 28, [7, 12, 2], 0), (.iload_n 3, [], 0), (.bipush 11, [], 0), (.isub, [], 0), (.iaload, [], 0), (.goto 4, [93], 0)]),
  (92, [(.iconst (-1), [], 0), (.nop, [93], 0)]),
  (93, [(.ireturn, [0], 0)]),
  (94, [(.iload_n 3, [], 0), (.bipush 10, [], 0), (.if_icmp .ne 10, [107, 1, 1, 1, 1], 0), (.aload_n 0, [], 0), (.getfield 114, [7, 13, 0], 0), (.goto 20, [124], 0)]),
  (107, [(.iload_n 3, [], 0), (.bipush 30, [], 0), (.if_icmp .ne 12, [122], 0), (.aload_n 0, [], 0), (.iload_n 1, [], 0), (.iload_n 2, [], 0), (.invokevirtual 134, [88, 3, 1, 6, 7], 0), (.goto 5, [124], 0)]),
  (122, [(.bipush (-102), [], 0), (.nop, [124], 0)]),
  (124, [(.ireturn, [0], 0)])]
/-- MindReadersModel.speech(III)I -/
def zc_90 : List (Nat × List zE) := [(0, [(.aload_n 0, [], 0), (.iload_n 1, [], 0), (.invokevirtual 138, [74, 2, 1, 2, 7], 0), (.ifCond .eq 21, [26], 0), (.iload_n 2, [], 0), (.i2l, [], 0), (.lconst 0, [], 0), (.aload_n 0, [], 0), (.getfield 16, [7, 6, 2], 0), (.iload_n 1, [], 0), (.iaload, [], 0), (.iconst 1, [], 0), (.isub, [], 0), (.i2l, [], 0), (.invokestatic 75, [67, 3, 1, 6], 0), (.ifCond .ne 6, [29, 1, 1, 1, 1], 0), (.nop, [26], 0)]),
  (26, [(.bipush (-101), [], 0), (.ireturn, [0], 0)]),
  (29, [(.aload_n 0, [], 0), (.iload_n 1, [], 0), (.iload_n 2, [], 0), (.iload_n 3, [], 0), (.invokevirtual 141, [89, 4, 1, 5, 7], 0), (.ireturn, [0], 0)])]
/-- MindReadersModel.isStart(III)Z -/
def zc_91 : List (Nat × List zE) := [(0, [(.aload_n 0, [], 0), (.getfield 31, [7, 14, 2], 0), (.bipush 11, [], 0), (.iload_n 1, [], 0), (.imul, [], 0), (.iaload, [], 0), (.iload_n 3, [], 0), (.if_icmp .lt 20, [30, 1, 1, 1, 1], 0), (.aload_n 0, [], 0), (.getfield 31, [7, 14, 2], 0), (.bipush 11, [], 0), (.iload_n 2, [], 0), (.imul, [], 0), (.iaload, [], 0), (.iload_n 3, [], 0), (.if_icmp .lt 7, [30, 1, 1, 1, 1], 0), (.iconst 1, [], 0), (.goto 4, [31, 1, 1, 1, 1], 0)]),
  (30, [(.iconst 0, [], 0), (.nop, [31, 1, 1, 1, 1], 0)]),
  (31, [(.istore 4, [], 0), (.iconst 0, [], 0), (.istore 5, [], 0), (.nop, [36, 1, 1, 1, 1, 1, 1], 0)]),
  (36, [(.iload 5, [], 0), (.iload_n 3, [], 0), (.if_icmp .ge 52, [91, 0, 0, 0, 0, 1], 0), (.iload 4, [], 0), (.ifCond .eq 47, [91, 0, 0, 0, 0, 1], 0), (.aload_n 0, [], 0), (.getfield 31, [7, 14, 2], 0), (.bipush 11, [], 0), (.iload_n 1, [], 0), (.imul, [], 0), (.iconst 1, [], 0), (.iadd, [], 0), (.iload 5, [], 0), (.iadd, [], 0), (.iaload, [], 0), (.aload_n 0, [], 0), (.getfield 31, [7, 14, 2], 0), (.bipush 11, [], 0), (.iload_n 2, [], 0), (.imul, [], 0), (.iconst 1, [], 0), (.iadd, [], 0), (.iload 5, [], 0), (.iadd, [], 0), (.iaload, [], 0), (.if_icmp .ne 7, [82, 1, 1, 1, 1, 0, 1], 0), (.iconst 1, [], 0), (.goto 4, [83, 1, 1, 1, 1, 0, 1], 0)]),
  (82, [(.iconst 0, [], 0), (.nop, [83, 1, 1, 1, 1, 0, 1], 0)]),
  (83, [(.istore 4, [], 0), (.iinc 5 1, [], 0), (.goto (-52), [36, 1, 1, 1, 1, 1, 1], 0)]),
  (91, [(.iload 4, [], 0), (.ireturn, [1], 0)])]
/-- MindReadersModel.isAlike(II)Z -/
def zc_92 : List (Nat × List zE) := [(0, [(.aload_n 0, [], 0), (.getfield 31, [7, 14, 2], 0), (.bipush 11, [], 0), (.iload_n 1, [], 0), (.imul, [], 0), (.iaload, [], 0), (.aload_n 0, [], 0), (.getfield 31, [7, 14, 2], 0), (.bipush 11, [], 0), (.iload_n 2, [], 0), (.imul, [], 0), (.iaload, [], 0), (.if_icmp .ne 25, [43], 0), (.aload_n 0, [], 0), (.iload_n 1, [], 0), (.iload_n 2, [], 0), (.aload_n 0, [], 0), (.getfield 31, [7, 14, 2], 0), (.bipush 11, [], 0), (.iload_n 1, [], 0), (.imul, [], 0), (.iaload, [], 0), (.invokevirtual 145, [91, 4, 1, 6, 7], 0), (.ifCond .eq 7, [43], 0), (.iconst 1, [], 0), (.goto 4, [44], 0)]),
  (43, [(.iconst 0, [], 0), (.nop, [44], 0)]),
  (44, [(.ireturn, [1], 0)])]
/-- MindReadersModel.layPage()Z -/
def zc_93 : List (Nat × List zE) := [(0, [(.iconst 1, [], 0), (.istore_n 1, [], 0), (.aload_n 0, [], 0), (.iconst 0, [], 0), (.putfield 114, [7, 13, 0], 0), (.iconst 0, [], 0), (.istore_n 2, [], 0), (.nop, [9, 1, 1, 1], 0)]),
  (9, [(.iload_n 2, [], 0), (.aload_n 0, [], 0), (.getfield 62, [7, 1, 0], 0), (.if_icmp .ge 47, [61, 0, 1], 0), (.iload_n 1, [], 0), (.ifCond .eq 43, [61, 0, 1], 0), (.aload_n 0, [], 0), (.getfield 7, [7, 0, 2], 0), (.iload_n 2, [], 0), (.iaload, [], 0), (.i2l, [], 0), (.ldc2_w 71, [], 97), (.ldc2_w 73, [], 104), (.invokestatic 75, [67, 3, 1, 6], 0), (.istore_n 1, [], 0), (.iload_n 1, [], 0), (.ifCond .eq 16, [55, 1, 1, 1], 0), (.aload_n 0, [], 0), (.aload_n 0, [], 0), (.getfield 7, [7, 0, 2], 0), (.iload_n 2, [], 0), (.iaload, [], 0), (.bipush 97, [], 0), (.isub, [], 0), (.invokevirtual 117, [85, 2, 0, 3, 7], 0), (.nop, [55, 1, 1, 1], 0)]),
  (55, [(.iinc 2 1, [], 0), (.goto (-49), [9, 1, 1, 1], 0)]),
  (61, [(.iload_n 1, [], 0), (.ireturn, [1], 0)])]
/-- MindReadersModel.differs(I)I -/
def zc_94 : List (Nat × List zE) := [(0, [(.aload_n 0, [], 0), (.getfield 31, [7, 14, 2], 0), (.bipush 11, [], 0), (.iload_n 1, [], 0), (.imul, [], 0), (.iaload, [], 0), (.aload_n 0, [], 0), (.getfield 114, [7, 13, 0], 0), (.if_icmp .eq 6, [19, 1, 1], 0), (.ldc 149, [], 1000000), (.ireturn, [0], 0)]),
  (19, [(.iconst 0, [], 0), (.istore_n 2, [], 0), (.iconst 0, [], 0), (.istore_n 3, [], 0), (.nop, [23, 1, 1, 1, 1], 0)]),
  (23, [(.iload_n 3, [], 0), (.aload_n 0, [], 0), (.getfield 114, [7, 13, 0], 0), (.if_icmp .ge 39, [67, 0, 0, 1], 0), (.iload_n 2, [], 0), (.aload_n 0, [], 0), (.getfield 31, [7, 14, 2], 0), (.bipush 11, [], 0), (.iload_n 1, [], 0), (.imul, [], 0), (.iconst 1, [], 0), (.iadd, [], 0), (.iload_n 3, [], 0), (.iadd, [], 0), (.iaload, [], 0), (.aload_n 0, [], 0), (.getfield 28, [7, 12, 2], 0), (.iload_n 3, [], 0), (.iaload, [], 0), (.if_icmp .ne 7, [58, 1, 1, 0, 1], 0), (.iconst 0, [], 0), (.goto 4, [59, 1, 1, 0, 1], 0)]),
  (58, [(.iconst 1, [], 0), (.nop, [59, 1, 1, 0, 1], 0)]),
  (59, [(.iadd, [], 0), (.istore_n 2, [], 0), (.iinc 3 1, [], 0), (.goto (-41), [23, 1, 1, 1, 1], 0)]),
  (67, [(.iload_n 2, [], 0), (.ireturn, [0], 0)])]
/-- MindReadersModel.namedNow(I)I -/
def zc_95 : List (Nat × List zE) := [(0, [(.iconst (-1), [], 0), (.istore_n 2, [], 0), (.ldc 149, [], 1000000), (.istore_n 3, [], 0), (.iconst 0, [], 0), (.istore 4, [], 0), (.nop, [8, 1, 1, 1, 1, 1], 0)]),
  (8, [(.iload 4, [], 0), (.aload_n 0, [], 0), (.getfield 16, [7, 6, 2], 0), (.iload_n 1, [], 0), (.iaload, [], 0), (.if_icmp .ge 43, [59, 0, 0, 1], 0), (.aload_n 0, [], 0), (.iload 4, [], 0), (.invokevirtual 150, [94, 2, 1, 4, 7], 0), (.istore 5, [], 0), (.iload 5, [], 0), (.iload_n 3, [], 0), (.if_icmp .ge 8, [38, 1, 1, 1, 1, 1, 1], 0), (.iload 4, [], 0), (.goto 4, [39, 1, 1, 0, 1, 1, 1], 0)]),
  (38, [(.iload_n 2, [], 0), (.nop, [39, 1, 1, 0, 1, 1, 1], 0)]),
  (39, [(.istore_n 2, [], 0), (.iload 5, [], 0), (.iload_n 3, [], 0), (.if_icmp .ge 8, [51, 1, 1, 1, 1, 1], 0), (.iload 5, [], 0), (.goto 4, [52, 1, 1, 1, 0, 1], 0)]),
  (51, [(.iload_n 3, [], 0), (.nop, [52, 1, 1, 1, 0, 1], 0)]),
  (52, [(.istore_n 3, [], 0), (.iinc 4 1, [], 0), (.goto (-48), [8, 1, 1, 1, 1, 1], 0)]),
  (59, [(.iload_n 2, [], 0), (.ireturn, [0], 0)])]
/-- MindReadersModel.means(I)I -/
def zc_96 : List (Nat × List zE) := [(0, [(.aload_n 0, [], 0), (.iload_n 1, [], 0), (.invokevirtual 138, [74, 2, 1, 2, 7], 0), (.ifCond .ne 6, [11, 1, 1], 0), (.bipush (-101), [], 0), (.ireturn, [0], 0)]),
  (11, [(.aload_n 0, [], 0), (.iload_n 1, [], 0), (.iconst 0, [], 0), (.invokevirtual 153, [87, 3, 0, 5, 7], 0), (.aload_n 0, [], 0), (.invokevirtual 157, [93, 1, 1, 3, 7], 0), (.ifCond .ne 6, [27, 1, 1], 0), (.bipush (-103), [], 0), (.ireturn, [0], 0)]),
  (27, [(.aload_n 0, [], 0), (.iload_n 1, [], 0), (.invokevirtual 161, [95, 2, 1, 6, 7], 0), (.istore_n 2, [], 0), (.iload_n 2, [], 0), (.iconst (-1), [], 0), (.if_icmp .eq 15, [50], 0), (.aload_n 0, [], 0), (.iload_n 2, [], 0), (.invokevirtual 150, [94, 2, 1, 4, 7], 0), (.ifCond .ne 7, [50], 0), (.iload_n 2, [], 0), (.goto 4, [51], 0)]),
  (50, [(.iconst (-1), [], 0), (.nop, [51], 0)]),
  (51, [(.ireturn, [0], 0)])]
/-- MindReadersModel.alikeOf(I)I -/
def zc_97 : List (Nat × List zE) := [(0, [(.aload_n 0, [], 0), (.iload_n 1, [], 0), (.iconst 0, [], 0), (.invokevirtual 153, [87, 3, 0, 5, 7], 0), (.iconst 0, [], 0), (.istore_n 2, [], 0), (.nop, [8, 1, 1, 1], 0)]),
  (8, [(.iload_n 2, [], 0), (.aload_n 0, [], 0), (.getfield 16, [7, 6, 2], 0), (.iload_n 1, [], 0), (.iaload, [], 0), (.if_icmp .ge 45, [60], 0), (.iload_n 2, [], 0), (.iconst 1, [], 0), (.iadd, [], 0), (.istore_n 3, [], 0), (.nop, [22, 1, 1, 1, 1], 0)]),
  (22, [(.iload_n 3, [], 0), (.aload_n 0, [], 0), (.getfield 16, [7, 6, 2], 0), (.iload_n 1, [], 0), (.iaload, [], 0), (.if_icmp .ge 25, [54, 1, 1, 1], 0), (.aload_n 0, [], 0), (.iload_n 2, [], 0), (.iload_n 3, [], 0), (.invokevirtual 164, [92, 3, 1, 3, 7], 0), (.ifCond .eq 10, [48, 1, 1, 1, 1], 0), (.bipush 8, [], 0), (.iload_n 2, [], 0), (.imul, [], 0), (.iload_n 3, [], 0), (.iadd, [], 0), (.ireturn, [0], 0)]),
  (48, [(.iinc 3 1, [], 0), (.goto (-29), [22, 1, 1, 1, 1], 0)]),
  (54, [(.iinc 2 1, [], 0), (.goto (-49), [8, 1, 1, 1], 0)]),
  (60, [(.iconst (-1), [], 0), (.ireturn, [0], 0)])]
/-- MindReadersModel.clear(II)I -/
def zc_98 : List (Nat × List zE) := [(0, [(.aload_n 0, [], 0), (.iload_n 1, [], 0), (.invokevirtual 138, [74, 2, 1, 2, 7], 0), (.ifCond .ne 6, [11, 1, 1, 1], 0), (.bipush (-101), [], 0), (.ireturn, [0], 0)]),
  (11, [(.iload_n 2, [], 0), (.i2l, [], 0), (.lconst 0, [], 0), (.ldc2_w 168, [], 2), (.invokestatic 75, [67, 3, 1, 6], 0), (.ifCond .ne 6, [26, 1, 1, 1], 0), (.bipush (-102), [], 0), (.ireturn, [0], 0)]),
  (26, [(.aload_n 0, [], 0), (.iload_n 1, [], 0), (.invokevirtual 170, [97, 2, 1, 4, 7], 0), (.istore_n 3, [], 0), (.iload_n 2, [], 0), (.ifCond .ne 14, [47, 0, 0, 1, 1], 0), (.iload_n 3, [], 0), (.iconst (-1), [], 0), (.if_icmp .ne 7, [45], 0), (.iconst 1, [], 0), (.goto 4, [46], 0)]),
  (45, [(.iconst 0, [], 0), (.nop, [46], 0)]),
  (46, [(.ireturn, [0], 0)]),
  (47, [(.iload_n 3, [], 0), (.iconst (-1), [], 0), (.if_icmp .ne 7, [56, 0, 0, 1, 1], 0), (.iconst (-1), [], 0), (.goto 19, [72], 0)]),
  (56, [(.iload_n 2, [], 0), (.iconst 1, [], 0), (.if_icmp .ne 10, [68, 0, 0, 0, 1], 0), (.iload_n 3, [], 0), (.bipush 8, [], 0), (.idiv, [], 0), (.goto 7, [72], 0)]),
  (68, [(.iload_n 3, [], 0), (.bipush 8, [], 0), (.irem, [], 0), (.nop, [72], 0)]),
  (72, [(.ireturn, [0], 0)])]
/-- MindReadersModel.starts(II)I -/
def zc_99 : List (Nat × List zE) := [(0, [(.aload_n 0, [], 0), (.iload_n 1, [], 0), (.invokevirtual 138, [74, 2, 1, 2, 7], 0), (.ifCond .ne 6, [11, 1, 1, 1], 0), (.bipush (-101), [], 0), (.ireturn, [0], 0)]),
  (11, [(.iload_n 2, [], 0), (.i2l, [], 0), (.lconst 0, [], 0), (.lconst 1, [], 0), (.invokestatic 75, [67, 3, 1, 6], 0), (.ifCond .ne 6, [24, 1, 1, 1], 0), (.bipush (-102), [], 0), (.ireturn, [0], 0)]),
  (24, [(.aload_n 0, [], 0), (.iload_n 1, [], 0), (.iconst 0, [], 0), (.invokevirtual 153, [87, 3, 0, 5, 7], 0), (.iconst 0, [], 0), (.istore_n 3, [], 0), (.nop, [32, 1, 1, 1, 1], 0)]),
  (32, [(.iload_n 3, [], 0), (.bipush 64, [], 0), (.if_icmp .ge 118, [153], 0), (.iload_n 3, [], 0), (.bipush 8, [], 0), (.idiv, [], 0), (.istore 4, [], 0), (.iload_n 3, [], 0), (.bipush 8, [], 0), (.irem, [], 0), (.istore 5, [], 0), (.iload 4, [], 0), (.iload 5, [], 0), (.if_icmp .eq 29, [83, 1, 1, 1, 1, 1, 1], 0), (.iload 4, [], 0), (.aload_n 0, [], 0), (.getfield 16, [7, 6, 2], 0), (.iload_n 1, [], 0), (.iaload, [], 0), (.if_icmp .ge 18, [83, 1, 1, 1, 1, 1, 1], 0), (.iload 5, [], 0), (.aload_n 0, [], 0), (.getfield 16, [7, 6, 2], 0), (.iload_n 1, [], 0), (.iaload, [], 0), (.if_icmp .ge 7, [83, 1, 1, 1, 1, 1, 1], 0), (.iconst 1, [], 0), (.goto 4, [84, 1, 1, 1, 1, 1, 1], 0)]),
  (83, [(.iconst 0, [], 0), (.nop, [84, 1, 1, 1, 1, 1, 1], 0)]),
  (84, [(.istore 6, [], 0), (.iload 6, [], 0), (.ifCond .eq 59, [147, 1, 1, 1, 1], 0), (.aload_n 0, [], 0), (.getfield 31, [7, 14, 2], 0), (.bipush 11, [], 0), (.iload 4, [], 0), (.imul, [], 0), (.iaload, [], 0), (.aload_n 0, [], 0), (.getfield 31, [7, 14, 2], 0), (.bipush 11, [], 0), (.iload 5, [], 0), (.imul, [], 0), (.iaload, [], 0), (.if_icmp .ge 36, [147, 1, 1, 1, 1], 0), (.aload_n 0, [], 0), (.iload 4, [], 0), (.iload 5, [], 0), (.aload_n 0, [], 0), (.getfield 31, [7, 14, 2], 0), (.bipush 11, [], 0), (.iload 4, [], 0), (.imul, [], 0), (.iaload, [], 0), (.invokevirtual 145, [91, 4, 1, 6, 7], 0), (.ifCond .eq 15, [147, 1, 1, 1, 1], 0), (.iload_n 2, [], 0), (.ifCond .ne 8, [144, 0, 0, 0, 0, 0, 1], 0), (.iload 4, [], 0), (.goto 5, [146], 0)]),
  (144, [(.iload 5, [], 0), (.nop, [146], 0)]),
  (146, [(.ireturn, [0], 0)]),
  (147, [(.iinc 3 1, [], 0), (.goto (-118), [32, 1, 1, 1, 1], 0)]),
  (153, [(.iconst (-1), [], 0), (.ireturn, [0], 0)])]
/-- MindReadersModel.goesOn(III)Z -/
def zc_100 : List (Nat × List zE) := [(0, [(.aload_n 0, [], 0), (.getfield 31, [7, 14, 2], 0), (.bipush 11, [], 0), (.iload_n 1, [], 0), (.imul, [], 0), (.iaload, [], 0), (.iload_n 2, [], 0), (.isub, [], 0), (.istore 4, [], 0), (.iload 4, [], 0), (.aload_n 0, [], 0), (.getfield 31, [7, 14, 2], 0), (.bipush 11, [], 0), (.iload_n 3, [], 0), (.imul, [], 0), (.iaload, [], 0), (.if_icmp .ge 8, [32, 1, 1, 1, 1], 0), (.iload 4, [], 0), (.goto 12, [41, 1, 1, 1, 1], 0)]),
  (32, [(.aload_n 0, [], 0), (.getfield 31, [7, 14, 2], 0), (.bipush 11, [], 0), (.iload_n 3, [], 0), (.imul, [], 0), (.iaload, [], 0), (.nop, [41, 1, 1, 1, 1], 0)]),
  (41, [(.istore 5, [], 0), (.iconst 1, [], 0), (.istore 6, [], 0), (.iconst 0, [], 0), (.istore 7, [], 0), (.nop, [49, 1, 1, 1, 1, 0, 1, 1, 1], 0)]),
  (49, [(.iload 7, [], 0), (.iload 5, [], 0), (.if_icmp .ge 54, [107, 0, 0, 0, 0, 0, 0, 1], 0), (.iload 6, [], 0), (.ifCond .eq 49, [107, 0, 0, 0, 0, 0, 0, 1], 0), (.aload_n 0, [], 0), (.getfield 31, [7, 14, 2], 0), (.bipush 11, [], 0), (.iload_n 1, [], 0), (.imul, [], 0), (.iconst 1, [], 0), (.iadd, [], 0), (.iload_n 2, [], 0), (.iadd, [], 0), (.iload 7, [], 0), (.iadd, [], 0), (.iaload, [], 0), (.aload_n 0, [], 0), (.getfield 31, [7, 14, 2], 0), (.bipush 11, [], 0), (.iload_n 3, [], 0), (.imul, [], 0), (.iconst 1, [], 0), (.iadd, [], 0), (.iload 7, [], 0), (.iadd, [], 0), (.iaload, [], 0), (.if_icmp .ne 7, [98, 1, 1, 1, 1, 0, 1, 0, 1], 0), (.iconst 1, [], 0), (.goto 4, [99, 1, 1, 1, 1, 0, 1, 0, 1], 0)]),
  (98, [(.iconst 0, [], 0), (.nop, [99, 1, 1, 1, 1, 0, 1, 0, 1], 0)]),
  (99, [(.istore 6, [], 0), (.iinc 7 1, [], 0), (.goto (-55), [49, 1, 1, 1, 1, 0, 1, 1, 1], 0)]),
  (107, [(.iload 6, [], 0), (.ireturn, [1], 0)])]
/-- MindReadersModel.reach(III)Z -/
def zc_101 : List (Nat × List zE) := [(0, [(.iload_n 2, [], 0), (.aload_n 0, [], 0), (.getfield 31, [7, 14, 2], 0), (.bipush 11, [], 0), (.iload_n 1, [], 0), (.imul, [], 0), (.iaload, [], 0), (.if_icmp .ne 25, [35, 1, 1, 1, 1], 0), (.aload_n 0, [], 0), (.iload_n 3, [], 0), (.aload_n 0, [], 0), (.getfield 173, [7, 16, 0], 0), (.if_icmp .ge 7, [26, 1], 0), (.iload_n 3, [], 0), (.goto 7, [30], 0)]),
  (26, [(.aload_n 0, [], 0), (.getfield 173, [7, 16, 0], 0), (.nop, [30], 0)]),
  (30, [(.putfield 173, [7, 16, 0], 0), (.iconst 0, [], 0), (.ireturn, [1], 0)]),
  (35, [(.iload_n 3, [], 0), (.aload_n 0, [], 0), (.getfield 34, [7, 15, 2], 0), (.bipush 11, [], 0), (.iload_n 1, [], 0), (.imul, [], 0), (.iload_n 2, [], 0), (.iadd, [], 0), (.iaload, [], 0), (.if_icmp .ge 7, [54, 1, 1, 1, 1], 0), (.iconst 1, [], 0), (.goto 4, [55, 1, 1, 1, 1], 0)]),
  (54, [(.iconst 0, [], 0), (.nop, [55, 1, 1, 1, 1], 0)]),
  (55, [(.istore 4, [], 0), (.aload_n 0, [], 0), (.getfield 34, [7, 15, 2], 0), (.bipush 11, [], 0), (.iload_n 1, [], 0), (.imul, [], 0), (.iload_n 2, [], 0), (.iadd, [], 0), (.iload 4, [], 0), (.ifCond .eq 7, [76, 1, 1, 1, 0, 1], 0), (.iload_n 3, [], 0), (.goto 14, [87, 0, 0, 0, 0, 1], 0)]),
  (76, [(.aload_n 0, [], 0), (.getfield 34, [7, 15, 2], 0), (.bipush 11, [], 0), (.iload_n 1, [], 0), (.imul, [], 0), (.iload_n 2, [], 0), (.iadd, [], 0), (.iaload, [], 0), (.nop, [87, 0, 0, 0, 0, 1], 0)]),
  (87, [(.iastore, [], 0), (.iload 4, [], 0), (.ireturn, [1], 0)])]
/-- MindReadersModel.reachBy(IIII)Z -/
def zc_102 : List (Nat × List zE) := [(0, [(.aload_n 0, [], 0), (.getfield 31, [7, 14, 2], 0), (.bipush 11, [], 0), (.iload_n 1, [], 0), (.imul, [], 0), (.iaload, [], 0), (.iload_n 2, [], 0), (.isub, [], 0), (.istore 5, [], 0), (.aload_n 0, [], 0), (.getfield 31, [7, 14, 2], 0), (.bipush 11, [], 0), (.iload_n 3, [], 0), (.imul, [], 0), (.iaload, [], 0), (.istore 6, [], 0), (.iload 6, [], 0), (.iload 5, [], 0), (.if_icmp .gt 17, [45, 1, 0, 0, 1, 1, 1, 1], 0), (.aload_n 0, [], 0), (.iload_n 1, [], 0), (.iload_n 2, [], 0), (.iload 6, [], 0), (.iadd, [], 0), (.iload 4, [], 0), (.invokevirtual 176, [101, 4, 1, 5, 7], 0), (.goto 18, [60], 0)]),
  (45, [(.aload_n 0, [], 0), (.iload_n 3, [], 0), (.iload 5, [], 0), (.iload 4, [], 0), (.iload 6, [], 0), (.iadd, [], 0), (.iload 5, [], 0), (.isub, [], 0), (.invokevirtual 176, [101, 4, 1, 5, 7], 0), (.nop, [60], 0)]),
  (60, [(.ireturn, [1], 0)])]
/-- MindReadersModel.twiceOf(I)I -/
def zc_103 : List (Nat × List zE) := [(0, [(.aload_n 0, [], 0), (.iload_n 1, [], 0), (.iconst 0, [], 0), (.invokevirtual 153, [87, 3, 0, 5, 7], 0), (.aload_n 0, [], 0), (.getfield 16, [7, 6, 2], 0), (.iload_n 1, [], 0), (.iaload, [], 0), (.istore_n 2, [], 0), (.aload_n 0, [], 0), (.ldc 149, [], 1000000), (.putfield 173, [7, 16, 0], 0), (.iconst 0, [], 0), (.istore_n 3, [], 0), (.nop, [21, 1, 0, 1, 1], 0)]),
  (21, [(.iload_n 3, [], 0), (.bipush 88, [], 0), (.if_icmp .ge 17, [41, 1, 0, 1], 0), (.aload_n 0, [], 0), (.getfield 34, [7, 15, 2], 0), (.iload_n 3, [], 0), (.ldc 149, [], 1000000), (.iastore, [], 0), (.iinc 3 1, [], 0), (.goto (-17), [21, 1, 0, 1, 1], 0)]),
  (41, [(.iconst 0, [], 0), (.istore_n 3, [], 0), (.nop, [43, 1, 0, 1, 1], 0)]),
  (43, [(.iload_n 3, [], 0), (.iload_n 2, [], 0), (.if_icmp .ge 122, [167, 1, 0, 1], 0), (.iconst 0, [], 0), (.istore 4, [], 0), (.nop, [51, 1, 0, 1, 1, 1], 0)]),
  (51, [(.iload 4, [], 0), (.iload_n 2, [], 0), (.if_icmp .ge 107, [161, 1, 0, 1, 1], 0), (.iload_n 3, [], 0), (.iload 4, [], 0), (.if_icmp .eq 41, [101, 1, 0, 1, 1, 1], 0), (.aload_n 0, [], 0), (.getfield 31, [7, 14, 2], 0), (.bipush 11, [], 0), (.iload_n 3, [], 0), (.imul, [], 0), (.iaload, [], 0), (.ifCond .le 29, [101, 1, 0, 1, 1, 1], 0), (.aload_n 0, [], 0), (.getfield 31, [7, 14, 2], 0), (.bipush 11, [], 0), (.iload_n 3, [], 0), (.imul, [], 0), (.iaload, [], 0), (.aload_n 0, [], 0), (.getfield 31, [7, 14, 2], 0), (.bipush 11, [], 0), (.iload 4, [], 0), (.imul, [], 0), (.iaload, [], 0), (.if_icmp .gt 7, [101, 1, 0, 1, 1, 1], 0), (.iconst 1, [], 0), (.goto 4, [102, 1, 0, 1, 1, 1], 0)]),
  (101, [(.iconst 0, [], 0), (.nop, [102, 1, 0, 1, 1, 1], 0)]),
  (102, [(.istore 5, [], 0), (.iload 5, [], 0), (.ifCond .eq 46, [152, 1, 0, 1, 1, 1], 0), (.aload_n 0, [], 0), (.iload 4, [], 0), (.iconst 0, [], 0), (.iload_n 3, [], 0), (.invokevirtual 179, [100, 4, 1, 8, 7], 0), (.ifCond .eq 35, [152, 1, 0, 1, 1, 1], 0), (.aload_n 0, [], 0), (.iload 4, [], 0), (.aload_n 0, [], 0), (.getfield 31, [7, 14, 2], 0), (.bipush 11, [], 0), (.iload_n 3, [], 0), (.imul, [], 0), (.iaload, [], 0), (.aload_n 0, [], 0), (.getfield 31, [7, 14, 2], 0), (.bipush 11, [], 0), (.iload 4, [], 0), (.imul, [], 0), (.iaload, [], 0), (.invokevirtual 176, [101, 4, 1, 5, 7], 0), (.ifCond .eq 7, [152, 1, 0, 1, 1, 1], 0), (.iconst 1, [], 0), (.goto 4, [153, 1, 0, 1, 1, 1], 0)]),
  (152, [(.iconst 0, [], 0), (.nop, [153, 1, 0, 1, 1, 1], 0)]),
  (153, [(.istore 6, [], 0), (.iinc 4 1, [], 0), (.goto (-107), [51, 1, 0, 1, 1, 1], 0)]),
  (161, [(.iinc 3 1, [], 0), (.goto (-121), [43, 1, 0, 1, 1], 0)]),
  (167, [(.iconst 1, [], 0), (.istore_n 3, [], 0), (.nop, [169, 1, 0, 1, 1], 0)]),
  (169, [(.iload_n 3, [], 0), (.ifCond .eq 145, [315, 1], 0), (.iconst 0, [], 0), (.istore_n 3, [], 0), (.iconst 0, [], 0), (.istore 4, [], 0), (.nop, [178, 1, 0, 1, 1, 1], 0)]),
  (178, [(.iload 4, [], 0), (.bipush 88, [], 0), (.if_icmp .ge 130, [312, 1, 0, 1, 1], 0), (.iload 4, [], 0), (.bipush 11, [], 0), (.idiv, [], 0), (.istore 5, [], 0), (.iload 4, [], 0), (.bipush 11, [], 0), (.irem, [], 0), (.istore 6, [], 0), (.iconst 0, [], 0), (.istore 7, [], 0), (.nop, [202, 1, 0, 1, 1, 1, 1, 1, 1], 0)]),
  (202, [(.iload 7, [], 0), (.iload_n 2, [], 0), (.if_icmp .ge 101, [306, 1, 0, 1, 1, 1], 0), (.aload_n 0, [], 0), (.getfield 34, [7, 15, 2], 0), (.iload 4, [], 0), (.iaload, [], 0), (.ldc 149, [], 1000000), (.if_icmp .ge 89, [306, 1, 0, 1, 1, 1], 0), (.aload_n 0, [], 0), (.getfield 31, [7, 14, 2], 0), (.bipush 11, [], 0), (.iload 7, [], 0), (.imul, [], 0), (.iaload, [], 0), (.ifCond .le 20, [250, 1, 0, 1, 1, 1, 1, 1, 1], 0), (.aload_n 0, [], 0), (.iload 5, [], 0), (.iload 6, [], 0), (.iload 7, [], 0), (.invokevirtual 179, [100, 4, 1, 8, 7], 0), (.ifCond .eq 7, [250, 1, 0, 1, 1, 1, 1, 1, 1], 0), (.iconst 1, [], 0), (.goto 4, [251, 1, 0, 1, 1, 1, 1, 1, 1], 0)]),
  (250, [(.iconst 0, [], 0), (.nop, [251, 1, 0, 1, 1, 1, 1, 1, 1], 0)]),
  (251, [(.istore 8, [], 0), (.iload 8, [], 0), (.ifCond .eq 27, [282, 1, 0, 1, 1, 1, 1, 1, 1], 0), (.aload_n 0, [], 0), (.iload 5, [], 0), (.iload 6, [], 0), (.iload 7, [], 0), (.aload_n 0, [], 0), (.getfield 34, [7, 15, 2], 0), (.iload 4, [], 0), (.iaload, [], 0), (.invokevirtual 182, [102, 5, 1, 7, 7], 0), (.ifCond .eq 7, [282, 1, 0, 1, 1, 1, 1, 1, 1], 0), (.iconst 1, [], 0), (.goto 4, [283, 1, 0, 1, 1, 1, 1, 1, 1], 0)]),
  (282, [(.iconst 0, [], 0), (.nop, [283, 1, 0, 1, 1, 1, 1, 1, 1], 0)]),
  (283, [(.istore 9, [], 0), (.iload_n 3, [], 0), (.ifCond .ne 8, [294, 1, 0, 1, 0, 1, 1, 1, 1], 0), (.iload 9, [], 0), (.ifCond .eq 7, [298, 1, 0, 1, 0, 1, 1, 1, 1], 0), (.nop, [294, 1, 0, 1, 0, 1, 1, 1, 1], 0)]),
  (294, [(.iconst 1, [], 0), (.goto 4, [299, 1, 0, 1, 0, 1, 1, 1, 1], 0)]),
  (298, [(.iconst 0, [], 0), (.nop, [299, 1, 0, 1, 0, 1, 1, 1, 1], 0)]),
  (299, [(.istore_n 3, [], 0), (.iinc 7 1, [], 0), (.goto (-101), [202, 1, 0, 1, 1, 1, 1, 1, 1], 0)]),
  (306, [(.iinc 4 1, [], 0), (.goto (-131), [178, 1, 0, 1, 1, 1], 0)]),
  (312, [(.goto (-143), [169, 1, 0, 1, 1], 0)]),
  (315, [(.aload_n 0, [], 0), (.getfield 173, [7, 16, 0], 0), (.ldc 149, [], 1000000), (.if_icmp .ne 7, [328, 1], 0), (.iconst (-1), [], 0), (.goto 7, [332], 0)]),
  (328, [(.aload_n 0, [], 0), (.getfield 173, [7, 16, 0], 0), (.nop, [332], 0)]),
  (332, [(.ireturn, [0], 0)])]
/-- MindReadersModel.twice(I)I -/
def zc_104 : List (Nat × List zE) := [(0, [(.aload_n 0, [], 0), (.iload_n 1, [], 0), (.invokevirtual 138, [74, 2, 1, 2, 7], 0), (.ifCond .eq 11, [16], 0), (.aload_n 0, [], 0), (.iload_n 1, [], 0), (.invokevirtual 186, [103, 2, 1, 10, 7], 0), (.goto 5, [18], 0)]),
  (16, [(.bipush (-101), [], 0), (.nop, [18], 0)]),
  (18, [(.ireturn, [0], 0)])]
/-- MindReadersModel.saidBy(I)I -/
def zc_105 : List (Nat × List zE) := [(0, [(.aload_n 0, [], 0), (.getfield 16, [7, 6, 2], 0), (.iload_n 1, [], 0), (.iaload, [], 0), (.aload_n 0, [], 0), (.getfield 104, [7, 10, 0], 0), (.if_icmp .ge 12, [22, 1], 0), (.aload_n 0, [], 0), (.getfield 16, [7, 6, 2], 0), (.iload_n 1, [], 0), (.iaload, [], 0), (.goto 7, [26], 0)]),
  (22, [(.aload_n 0, [], 0), (.getfield 104, [7, 10, 0], 0), (.nop, [26], 0)]),
  (26, [(.ireturn, [0], 0)])]
/-- MindReadersModel.common(JJ)J -/
def zc_106 : List (Nat × List zE) := [(0, [(.lload_n 0, [], 0), (.lstore 4, [], 0), (.lload_n 2, [], 0), (.lstore 6, [], 0), (.nop, [6, 0, 0, 0, 0, 1, 0, 1], 0)]),
  (6, [(.lload 4, [], 0), (.lconst 0, [], 0), (.lcmp, [], 0), (.ifCond .eq 21, [31, 0, 0, 0, 0, 0, 0, 1], 0), (.lload 6, [], 0), (.lload 4, [], 0), (.lrem, [], 0), (.lstore 8, [], 0), (.lload 4, [], 0), (.lstore 6, [], 0), (.lload 8, [], 0), (.lstore 4, [], 0), (.goto (-22), [6, 0, 0, 0, 0, 1, 0, 1], 0)]),
  (31, [(.lload 6, [], 0), (.lreturn, [], 0)])]
/-- MindReadersModel.term(JJI)J -/
def zc_107 : List (Nat × List zE) := [(0, [(.lload_n 0, [], 0), (.lload_n 2, [], 0), (.invokestatic 189, [106, 2, 2, 10], 0), (.lstore 5, [], 0), (.iload 4, [], 0), (.ifCond .ne 10, [19, 0, 0, 1, 0, 0, 1], 0), (.lload_n 0, [], 0), (.lload 5, [], 0), (.ldiv, [], 0), (.goto 7, [23], 0)]),
  (19, [(.lload_n 2, [], 0), (.lload 5, [], 0), (.ldiv, [], 0), (.nop, [23], 0)]),
  (23, [(.lreturn, [], 0)])]
/-- MindReadersModel.isPart(I)Z -/
def zc_108 : List (Nat × List zE) := [(0, [(.iload_n 0, [], 0), (.i2l, [], 0), (.lconst 0, [], 0), (.lconst 1, [], 0), (.invokestatic 75, [67, 3, 1, 6], 0), (.ireturn, [1], 0)])]
/-- MindReadersModel.weighed(I)I -/
def zc_109 : List (Nat × List zE) := [(0, [(.iconst 0, [], 0), (.istore_n 2, [], 0), (.iconst 0, [], 0), (.istore_n 3, [], 0), (.nop, [4, 1, 1, 1, 1], 0)]),
  (4, [(.iload_n 3, [], 0), (.iload_n 1, [], 0), (.if_icmp .ge 18, [24, 0, 0, 1], 0), (.iload_n 2, [], 0), (.aload_n 0, [], 0), (.getfield 25, [7, 11, 2], 0), (.iload_n 3, [], 0), (.iaload, [], 0), (.iadd, [], 0), (.istore_n 2, [], 0), (.iinc 3 1, [], 0), (.goto (-17), [4, 1, 1, 1, 1], 0)]),
  (24, [(.iload_n 2, [], 0), (.ireturn, [0], 0)])]
/-- MindReadersModel.mean(II)I -/
def zc_110 : List (Nat × List zE) := [(0, [(.aload_n 0, [], 0), (.iload_n 1, [], 0), (.invokevirtual 138, [74, 2, 1, 2, 7], 0), (.ifCond .ne 6, [11, 1, 1, 1], 0), (.bipush (-101), [], 0), (.ireturn, [0], 0)]),
  (11, [(.iload_n 2, [], 0), (.invokestatic 193, [108, 1, 1, 1], 0), (.ifCond .ne 6, [21, 1, 1, 1], 0), (.bipush (-102), [], 0), (.ireturn, [0], 0)]),
  (21, [(.aload_n 0, [], 0), (.iload_n 1, [], 0), (.invokevirtual 196, [105, 2, 1, 2, 7], 0), (.istore_n 3, [], 0), (.iload_n 3, [], 0), (.ifCond .ne 6, [34, 1, 1, 1, 1], 0), (.bipush (-103), [], 0), (.ireturn, [0], 0)]),
  (34, [(.iconst 0, [], 0), (.istore 4, [], 0), (.iconst 0, [], 0), (.istore 5, [], 0), (.nop, [40, 1, 1, 1, 1, 1, 1], 0)]),
  (40, [(.iload 5, [], 0), (.iload_n 3, [], 0), (.if_icmp .ge 29, [72, 1, 0, 1, 1, 1], 0), (.iload 4, [], 0), (.aload_n 0, [], 0), (.getfield 25, [7, 11, 2], 0), (.iload 5, [], 0), (.iaload, [], 0), (.aload_n 0, [], 0), (.iload_n 1, [], 0), (.iload 5, [], 0), (.invokevirtual 134, [88, 3, 1, 6, 7], 0), (.imul, [], 0), (.iadd, [], 0), (.istore 4, [], 0), (.iinc 5 1, [], 0), (.goto (-29), [40, 1, 1, 1, 1, 1, 1], 0)]),
  (72, [(.iload 4, [], 0), (.i2l, [], 0), (.aload_n 0, [], 0), (.iload_n 3, [], 0), (.invokevirtual 199, [109, 2, 1, 4, 7], 0), (.i2l, [], 0), (.iload_n 2, [], 0), (.invokestatic 202, [107, 3, 2, 7], 0), (.l2i, [], 0), (.ireturn, [0], 0)])]
/-- MindReadersModel.oddnessOf(I)I -/
def zc_111 : List (Nat × List zE) := [(0, [(.iconst 0, [], 0), (.istore_n 2, [], 0), (.iconst 0, [], 0), (.istore_n 3, [], 0), (.nop, [4, 1, 1, 1, 1], 0)]),
  (4, [(.iload_n 3, [], 0), (.aload_n 0, [], 0), (.iload_n 1, [], 0), (.invokevirtual 196, [105, 2, 1, 2, 7], 0), (.if_icmp .ge 65, [75, 0, 0, 1], 0), (.bipush 48, [], 0), (.iload_n 1, [], 0), (.imul, [], 0), (.bipush 6, [], 0), (.iload_n 3, [], 0), (.imul, [], 0), (.iadd, [], 0), (.istore 4, [], 0), (.iconst 1, [], 0), (.istore 5, [], 0), (.nop, [27, 1, 1, 1, 1, 1, 1], 0)]),
  (27, [(.iload 5, [], 0), (.aload_n 0, [], 0), (.getfield 19, [7, 7, 2], 0), (.iload 4, [], 0), (.iaload, [], 0), (.if_icmp .gt 33, [69, 1, 1, 1, 1], 0), (.iload_n 2, [], 0), (.aload_n 0, [], 0), (.getfield 25, [7, 11, 2], 0), (.iload_n 3, [], 0), (.iaload, [], 0), (.aload_n 0, [], 0), (.aload_n 0, [], 0), (.getfield 19, [7, 7, 2], 0), (.iload 4, [], 0), (.iload 5, [], 0), (.iadd, [], 0), (.iaload, [], 0), (.invokevirtual 206, [84, 2, 1, 2, 7], 0), (.imul, [], 0), (.iadd, [], 0), (.istore_n 2, [], 0), (.iinc 5 1, [], 0), (.goto (-39), [27, 1, 1, 1, 1, 1, 1], 0)]),
  (69, [(.iinc 3 1, [], 0), (.goto (-68), [4, 1, 1, 1, 1], 0)]),
  (75, [(.iload_n 2, [], 0), (.ireturn, [0], 0)])]
/-- MindReadersModel.oddness(I)I -/
def zc_112 : List (Nat × List zE) := [(0, [(.aload_n 0, [], 0), (.iload_n 1, [], 0), (.invokevirtual 138, [74, 2, 1, 2, 7], 0), (.ifCond .eq 11, [16], 0), (.aload_n 0, [], 0), (.iload_n 1, [], 0), (.invokevirtual 209, [111, 2, 1, 6, 7], 0), (.goto 5, [18], 0)]),
  (16, [(.bipush (-101), [], 0), (.nop, [18], 0)]),
  (18, [(.ireturn, [0], 0)])]
/-- MindReadersModel.placeOf(II)I -/
def zc_113 : List (Nat × List zE) := [(0, [(.iconst 0, [], 0), (.istore_n 3, [], 0), (.iconst 0, [], 0), (.istore 4, [], 0), (.nop, [5, 1, 1, 1, 1, 1], 0)]),
  (5, [(.iload 4, [], 0), (.iload_n 2, [], 0), (.if_icmp .ge 55, [63, 0, 0, 0, 1], 0), (.iload_n 3, [], 0), (.aload_n 0, [], 0), (.getfield 25, [7, 11, 2], 0), (.iload 4, [], 0), (.iaload, [], 0), (.aload_n 0, [], 0), (.getfield 25, [7, 11, 2], 0), (.iload_n 1, [], 0), (.iaload, [], 0), (.if_icmp .gt 25, [50, 1, 1, 1, 0, 1], 0), (.aload_n 0, [], 0), (.getfield 25, [7, 11, 2], 0), (.iload 4, [], 0), (.iaload, [], 0), (.aload_n 0, [], 0), (.getfield 25, [7, 11, 2], 0), (.iload_n 1, [], 0), (.iaload, [], 0), (.if_icmp .ne 13, [54, 1, 1, 1, 0, 1], 0), (.iload 4, [], 0), (.iload_n 1, [], 0), (.if_icmp .ge 7, [54, 1, 1, 1, 0, 1], 0), (.nop, [50, 1, 1, 1, 0, 1], 0)]),
  (50, [(.iconst 1, [], 0), (.goto 4, [55, 1, 1, 1, 0, 1], 0)]),
  (54, [(.iconst 0, [], 0), (.nop, [55, 1, 1, 1, 0, 1], 0)]),
  (55, [(.iadd, [], 0), (.istore_n 3, [], 0), (.iinc 4 1, [], 0), (.goto (-55), [5, 1, 1, 1, 1, 1], 0)]),
  (63, [(.iload_n 3, [], 0), (.ireturn, [0], 0)])]
/-- MindReadersModel.speechAt(III)I -/
def zc_114 : List (Nat × List zE) := [(0, [(.iconst (-1), [], 0), (.istore 4, [], 0), (.iconst 0, [], 0), (.istore 5, [], 0), (.nop, [6, 1, 1, 1, 1, 1, 1], 0)]),
  (6, [(.iload 5, [], 0), (.iload_n 3, [], 0), (.if_icmp .ge 86, [95, 0, 0, 0, 0, 1], 0), (.iconst 0, [], 0), (.istore 6, [], 0), (.iconst 0, [], 0), (.istore 7, [], 0), (.nop, [18, 1, 1, 1, 1, 1, 1, 1, 1], 0)]),
  (18, [(.iload 7, [], 0), (.iload_n 3, [], 0), (.if_icmp .ge 53, [74, 1, 1, 1, 1, 1, 1, 1], 0), (.aload_n 0, [], 0), (.iload_n 1, [], 0), (.iload 7, [], 0), (.invokevirtual 134, [88, 3, 1, 6, 7], 0), (.aload_n 0, [], 0), (.iload_n 1, [], 0), (.iload 5, [], 0), (.invokevirtual 134, [88, 3, 1, 6, 7], 0), (.isub, [], 0), (.istore 8, [], 0), (.iload 6, [], 0), (.iload 8, [], 0), (.ifCond .lt 15, [60, 1, 1, 1, 1, 1, 1, 0, 1], 0), (.iload 8, [], 0), (.ifCond .ne 14, [64, 1, 1, 1, 1, 1, 1, 0, 1], 0), (.iload 7, [], 0), (.iload 5, [], 0), (.if_icmp .ge 7, [64, 1, 1, 1, 1, 1, 1, 0, 1], 0), (.nop, [60, 1, 1, 1, 1, 1, 1, 0, 1], 0)]),
  (60, [(.iconst 1, [], 0), (.goto 4, [65, 1, 1, 1, 1, 1, 1, 0, 1], 0)]),
  (64, [(.iconst 0, [], 0), (.nop, [65, 1, 1, 1, 1, 1, 1, 0, 1], 0)]),
  (65, [(.iadd, [], 0), (.istore 6, [], 0), (.iinc 7 1, [], 0), (.goto (-53), [18, 1, 1, 1, 1, 1, 1, 1, 1], 0)]),
  (74, [(.iload 6, [], 0), (.iload_n 2, [], 0), (.if_icmp .ne 8, [85, 1, 1, 1, 1, 1, 1], 0), (.iload 5, [], 0), (.goto 5, [87, 1, 1, 1, 1, 0, 1], 0)]),
  (85, [(.iload 4, [], 0), (.nop, [87, 1, 1, 1, 1, 0, 1], 0)]),
  (87, [(.istore 4, [], 0), (.iinc 5 1, [], 0), (.goto (-86), [6, 1, 1, 1, 1, 1, 1], 0)]),
  (95, [(.iload 4, [], 0), (.ireturn, [0], 0)])]
/-- MindReadersModel.dealt(II)I -/
def zc_115 : List (Nat × List zE) := [(0, [(.aload_n 0, [], 0), (.iload_n 1, [], 0), (.invokevirtual 138, [74, 2, 1, 2, 7], 0), (.ifCond .ne 6, [11, 1, 1, 1], 0), (.bipush (-101), [], 0), (.ireturn, [0], 0)]),
  (11, [(.iload_n 2, [], 0), (.invokestatic 193, [108, 1, 1, 1], 0), (.ifCond .ne 20, [35, 1, 1, 1], 0), (.iload_n 2, [], 0), (.i2l, [], 0), (.ldc2_w 212, [], 10), (.ldc2_w 214, [], 17), (.invokestatic 75, [67, 3, 1, 6], 0), (.ifCond .ne 6, [35, 1, 1, 1], 0), (.bipush (-102), [], 0), (.ireturn, [0], 0)]),
  (35, [(.aload_n 0, [], 0), (.iload_n 1, [], 0), (.invokevirtual 196, [105, 2, 1, 2, 7], 0), (.istore_n 3, [], 0), (.iload_n 3, [], 0), (.ifCond .ne 6, [48, 1, 1, 1, 1], 0), (.bipush (-103), [], 0), (.ireturn, [0], 0)]),
  (48, [(.iload_n 2, [], 0), (.iconst 1, [], 0), (.if_icmp .le 31, [81, 1, 1, 1, 1], 0), (.iload_n 2, [], 0), (.bipush 10, [], 0), (.isub, [], 0), (.iload_n 3, [], 0), (.if_icmp .ge 21, [79], 0), (.aload_n 0, [], 0), (.iload_n 1, [], 0), (.aload_n 0, [], 0), (.iload_n 2, [], 0), (.bipush 10, [], 0), (.isub, [], 0), (.iload_n 3, [], 0), (.invokevirtual 216, [113, 3, 1, 5, 7], 0), (.iload_n 3, [], 0), (.invokevirtual 219, [114, 4, 1, 9, 7], 0), (.goto 4, [80], 0)]),
  (79, [(.iconst (-1), [], 0), (.nop, [80], 0)]),
  (80, [(.ireturn, [0], 0)]),
  (81, [(.iconst 0, [], 0), (.istore 4, [], 0), (.iconst 0, [], 0), (.istore 5, [], 0), (.nop, [87, 1, 1, 1, 1, 1, 1], 0)]),
  (87, [(.iload 5, [], 0), (.iload_n 3, [], 0), (.if_icmp .ge 40, [130, 1, 0, 1, 1, 1], 0), (.iload 4, [], 0), (.aload_n 0, [], 0), (.getfield 25, [7, 11, 2], 0), (.iload 5, [], 0), (.iaload, [], 0), (.aload_n 0, [], 0), (.iload_n 1, [], 0), (.aload_n 0, [], 0), (.iload_n 1, [], 0), (.aload_n 0, [], 0), (.iload 5, [], 0), (.iload_n 3, [], 0), (.invokevirtual 216, [113, 3, 1, 5, 7], 0), (.iload_n 3, [], 0), (.invokevirtual 219, [114, 4, 1, 9, 7], 0), (.invokevirtual 134, [88, 3, 1, 6, 7], 0), (.imul, [], 0), (.iadd, [], 0), (.istore 4, [], 0), (.iinc 5 1, [], 0), (.goto (-40), [87, 1, 1, 1, 1, 1, 1], 0)]),
  (130, [(.iload 4, [], 0), (.i2l, [], 0), (.aload_n 0, [], 0), (.iload_n 3, [], 0), (.invokevirtual 199, [109, 2, 1, 4, 7], 0), (.i2l, [], 0), (.iload_n 2, [], 0), (.invokestatic 202, [107, 3, 2, 7], 0), (.l2i, [], 0), (.ireturn, [0], 0)])]
/-- MindReadersModel.takeLeast(I)I -/
def zc_116 : List (Nat × List zE) := [(0, [(.iconst (-1), [], 0), (.istore_n 2, [], 0), (.iconst 0, [], 0), (.istore_n 3, [], 0), (.nop, [4, 1, 1, 1, 1], 0)]),
  (4, [(.iload_n 3, [], 0), (.iload_n 1, [], 0), (.if_icmp .ge 44, [50, 1, 0, 1], 0), (.aload_n 0, [], 0), (.getfield 37, [7, 17, 2], 0), (.iload_n 3, [], 0), (.iaload, [], 0), (.ifCond .lt 27, [42, 1, 1, 1, 1], 0), (.iload_n 2, [], 0), (.iconst (-1), [], 0), (.if_icmp .eq 18, [38, 1, 1, 0, 1], 0), (.aload_n 0, [], 0), (.getfield 37, [7, 17, 2], 0), (.iload_n 3, [], 0), (.iaload, [], 0), (.aload_n 0, [], 0), (.getfield 37, [7, 17, 2], 0), (.iload_n 2, [], 0), (.iaload, [], 0), (.if_icmp .ge 7, [42, 1, 1, 1, 1], 0), (.nop, [38, 1, 1, 0, 1], 0)]),
  (38, [(.iload_n 3, [], 0), (.goto 4, [43, 1, 1, 0, 1], 0)]),
  (42, [(.iload_n 2, [], 0), (.nop, [43, 1, 1, 0, 1], 0)]),
  (43, [(.istore_n 2, [], 0), (.iinc 3 1, [], 0), (.goto (-43), [4, 1, 1, 1, 1], 0)]),
  (50, [(.aload_n 0, [], 0), (.getfield 37, [7, 17, 2], 0), (.iload_n 2, [], 0), (.iaload, [], 0), (.istore_n 3, [], 0), (.aload_n 0, [], 0), (.getfield 37, [7, 17, 2], 0), (.iload_n 2, [], 0), (.iconst (-1), [], 0), (.iastore, [], 0), (.iload_n 3, [], 0), (.ireturn, [0], 0)])]
/-- MindReadersModel.shortNow(I)I -/
def zc_117 : List (Nat × List zE) := [(0, [(.aload_n 0, [], 0), (.getfield 104, [7, 10, 0], 0), (.istore_n 2, [], 0), (.nop, [5, 1, 1, 1], 0)]),
  (5, [(.iload_n 2, [], 0), (.iconst 1, [], 0), (.isub, [], 0), (.iload_n 1, [], 0), (.iconst 1, [], 0), (.isub, [], 0), (.irem, [], 0), (.ifCond .le 9, [21, 1, 1, 1], 0), (.iinc 2 1, [], 0), (.goto (-13), [5, 1, 1, 1], 0)]),
  (21, [(.iconst 0, [], 0), (.istore_n 3, [], 0), (.nop, [23, 1, 1, 1, 1], 0)]),
  (23, [(.iload_n 3, [], 0), (.iload_n 2, [], 0), (.if_icmp .ge 33, [58, 1, 1, 1], 0), (.aload_n 0, [], 0), (.getfield 37, [7, 17, 2], 0), (.iload_n 3, [], 0), (.iload_n 3, [], 0), (.aload_n 0, [], 0), (.getfield 104, [7, 10, 0], 0), (.if_icmp .ge 12, [50, 1, 1, 1, 1], 0), (.aload_n 0, [], 0), (.getfield 25, [7, 11, 2], 0), (.iload_n 3, [], 0), (.iaload, [], 0), (.goto 4, [51, 1, 1, 1, 1], 0)]),
  (50, [(.iconst 0, [], 0), (.nop, [51, 1, 1, 1, 1], 0)]),
  (51, [(.iastore, [], 0), (.iinc 3 1, [], 0), (.goto (-32), [23, 1, 1, 1, 1], 0)]),
  (58, [(.iconst 0, [], 0), (.istore_n 3, [], 0), (.iload_n 2, [], 0), (.istore 4, [], 0), (.nop, [63, 1, 1, 1, 1, 1], 0)]),
  (63, [(.iload 4, [], 0), (.iconst 1, [], 0), (.if_icmp .le 75, [141, 0, 0, 0, 1], 0), (.iconst 0, [], 0), (.istore 5, [], 0), (.iconst 0, [], 0), (.istore 6, [], 0), (.nop, [75, 1, 1, 1, 1, 1, 1, 1], 0)]),
  (75, [(.iload 6, [], 0), (.iload_n 1, [], 0), (.if_icmp .ge 19, [97, 1, 1, 1, 1, 1, 1], 0), (.iload 5, [], 0), (.aload_n 0, [], 0), (.iload_n 2, [], 0), (.invokevirtual 222, [116, 2, 1, 4, 7], 0), (.iadd, [], 0), (.istore 5, [], 0), (.iinc 6 1, [], 0), (.goto (-19), [75, 1, 1, 1, 1, 1, 1, 1], 0)]),
  (97, [(.iconst 0, [], 0), (.istore 6, [], 0), (.nop, [100, 1, 1, 1, 1, 1, 1, 1], 0)]),
  (100, [(.aload_n 0, [], 0), (.getfield 37, [7, 17, 2], 0), (.iload 6, [], 0), (.iaload, [], 0), (.ifCond .lt 9, [116, 1, 1, 1, 1, 1, 1, 1], 0), (.iinc 6 1, [], 0), (.goto (-13), [100, 1, 1, 1, 1, 1, 1, 1], 0)]),
  (116, [(.aload_n 0, [], 0), (.getfield 37, [7, 17, 2], 0), (.iload 6, [], 0), (.iload 5, [], 0), (.iastore, [], 0), (.iload_n 3, [], 0), (.iload 5, [], 0), (.iadd, [], 0), (.istore_n 3, [], 0), (.iload 4, [], 0), (.iload_n 1, [], 0), (.iconst 1, [], 0), (.isub, [], 0), (.isub, [], 0), (.istore 4, [], 0), (.goto (-75), [63, 1, 1, 1, 1, 1], 0)]),
  (141, [(.iload_n 3, [], 0), (.ireturn, [0], 0)])]
/-- MindReadersModel.shortest(II)I -/
def zc_118 : List (Nat × List zE) := [(0, [(.iload_n 1, [], 0), (.i2l, [], 0), (.ldc2_w 168, [], 2), (.ldc2_w 225, [], 8), (.invokestatic 75, [67, 3, 1, 6], 0), (.ifCond .eq 10, [21], 0), (.iload_n 2, [], 0), (.invokestatic 193, [108, 1, 1, 1], 0), (.ifCond .ne 6, [24, 1, 1, 1], 0), (.nop, [21], 0)]),
  (21, [(.bipush (-102), [], 0), (.ireturn, [0], 0)]),
  (24, [(.aload_n 0, [], 0), (.getfield 104, [7, 10, 0], 0), (.ifCond .ne 6, [34, 1, 1, 1], 0), (.bipush (-103), [], 0), (.ireturn, [0], 0)]),
  (34, [(.aload_n 0, [], 0), (.iload_n 1, [], 0), (.invokevirtual 227, [117, 2, 1, 7, 7], 0), (.i2l, [], 0), (.aload_n 0, [], 0), (.aload_n 0, [], 0), (.getfield 104, [7, 10, 0], 0), (.invokevirtual 199, [109, 2, 1, 4, 7], 0), (.i2l, [], 0), (.iload_n 2, [], 0), (.invokestatic 202, [107, 3, 2, 7], 0), (.l2i, [], 0), (.ireturn, [0], 0)])]
/-- MindReadersModel.apartOf(I)I -/
def zc_119 : List (Nat × List zE) := [(0, [(.aload_n 0, [], 0), (.iload_n 1, [], 0), (.iconst 0, [], 0), (.invokevirtual 153, [87, 3, 0, 5, 7], 0), (.aload_n 0, [], 0), (.getfield 16, [7, 6, 2], 0), (.iload_n 1, [], 0), (.iaload, [], 0), (.iconst 2, [], 0), (.if_icmp .ge 7, [20, 1, 1], 0), (.iconst (-1), [], 0), (.goto 5, [22, 1, 1], 0)]),
  (20, [(.ldc 149, [], 1000000), (.nop, [22, 1, 1], 0)]),
  (22, [(.istore_n 2, [], 0), (.iconst 0, [], 0), (.istore_n 3, [], 0), (.nop, [25, 1, 1, 1, 1], 0)]),
  (25, [(.iload_n 3, [], 0), (.aload_n 0, [], 0), (.getfield 16, [7, 6, 2], 0), (.iload_n 1, [], 0), (.iaload, [], 0), (.if_icmp .ge 160, [192, 0, 0, 1], 0), (.iload_n 3, [], 0), (.iconst 1, [], 0), (.iadd, [], 0), (.istore 4, [], 0), (.nop, [40, 1, 1, 1, 1, 1], 0)]),
  (40, [(.iload 4, [], 0), (.aload_n 0, [], 0), (.getfield 16, [7, 6, 2], 0), (.iload_n 1, [], 0), (.iaload, [], 0), (.if_icmp .ge 138, [186, 1, 1, 1, 1], 0), (.iconst 0, [], 0), (.istore 5, [], 0), (.iconst 0, [], 0), (.istore 6, [], 0), (.nop, [57, 1, 1, 1, 1, 1, 1, 1], 0)]),
  (57, [(.iload 6, [], 0), (.aload_n 0, [], 0), (.getfield 31, [7, 14, 2], 0), (.bipush 11, [], 0), (.iload_n 3, [], 0), (.imul, [], 0), (.iaload, [], 0), (.if_icmp .ge 73, [141, 1, 1, 1, 1, 1, 1], 0), (.aload_n 0, [], 0), (.getfield 31, [7, 14, 2], 0), (.bipush 11, [], 0), (.iload_n 3, [], 0), (.imul, [], 0), (.iaload, [], 0), (.aload_n 0, [], 0), (.getfield 31, [7, 14, 2], 0), (.bipush 11, [], 0), (.iload 4, [], 0), (.imul, [], 0), (.iaload, [], 0), (.if_icmp .ne 51, [141, 1, 1, 1, 1, 1, 1], 0), (.iload 5, [], 0), (.aload_n 0, [], 0), (.getfield 31, [7, 14, 2], 0), (.bipush 11, [], 0), (.iload_n 3, [], 0), (.imul, [], 0), (.iconst 1, [], 0), (.iadd, [], 0), (.iload 6, [], 0), (.iadd, [], 0), (.iaload, [], 0), (.aload_n 0, [], 0), (.getfield 31, [7, 14, 2], 0), (.bipush 11, [], 0), (.iload 4, [], 0), (.imul, [], 0), (.iconst 1, [], 0), (.iadd, [], 0), (.iload 6, [], 0), (.iadd, [], 0), (.iaload, [], 0), (.if_icmp .ne 7, [131, 1, 1, 1, 1, 1, 0, 1], 0), (.iconst 0, [], 0), (.goto 4, [132, 1, 1, 1, 1, 1, 0, 1], 0)]),
  (131, [(.iconst 1, [], 0), (.nop, [132, 1, 1, 1, 1, 1, 0, 1], 0)]),
  (132, [(.iadd, [], 0), (.istore 5, [], 0), (.iinc 6 1, [], 0), (.goto (-81), [57, 1, 1, 1, 1, 1, 1, 1], 0)]),
  (141, [(.aload_n 0, [], 0), (.getfield 31, [7, 14, 2], 0), (.bipush 11, [], 0), (.iload_n 3, [], 0), (.imul, [], 0), (.iaload, [], 0), (.aload_n 0, [], 0), (.getfield 31, [7, 14, 2], 0), (.bipush 11, [], 0), (.iload 4, [], 0), (.imul, [], 0), (.iaload, [], 0), (.if_icmp .eq 7, [167, 1, 1, 1, 1, 1, 1], 0), (.iconst (-1), [], 0), (.goto 15, [179, 1, 1, 0, 1, 1], 0)]),
  (167, [(.iload 5, [], 0), (.iload_n 2, [], 0), (.if_icmp .ge 8, [178, 1, 1, 1, 1, 1], 0), (.iload 5, [], 0), (.goto 4, [179, 1, 1, 0, 1, 1], 0)]),
  (178, [(.iload_n 2, [], 0), (.nop, [179, 1, 1, 0, 1, 1], 0)]),
  (179, [(.istore_n 2, [], 0), (.iinc 4 1, [], 0), (.goto (-143), [40, 1, 1, 1, 1, 1], 0)]),
  (186, [(.iinc 3 1, [], 0), (.goto (-164), [25, 1, 1, 1, 1], 0)]),
  (192, [(.iload_n 2, [], 0), (.ireturn, [0], 0)])]
/-- MindReadersModel.apart(I)I -/
def zc_120 : List (Nat × List zE) := [(0, [(.aload_n 0, [], 0), (.iload_n 1, [], 0), (.invokevirtual 138, [74, 2, 1, 2, 7], 0), (.ifCond .eq 11, [16], 0), (.aload_n 0, [], 0), (.iload_n 1, [], 0), (.invokevirtual 230, [119, 2, 1, 7, 7], 0), (.goto 5, [18], 0)]),
  (16, [(.bipush (-101), [], 0), (.nop, [18], 0)]),
  (18, [(.ireturn, [0], 0)])]
/-- MindReadersModel.named(I)I -/
def zc_121 : List (Nat × List zE) := [(0, [(.aload_n 0, [], 0), (.iload_n 1, [], 0), (.invokevirtual 138, [74, 2, 1, 2, 7], 0), (.ifCond .ne 6, [11, 1, 1], 0), (.bipush (-101), [], 0), (.ireturn, [0], 0)]),
  (11, [(.aload_n 0, [], 0), (.iload_n 1, [], 0), (.iconst 0, [], 0), (.invokevirtual 153, [87, 3, 0, 5, 7], 0), (.aload_n 0, [], 0), (.invokevirtual 157, [93, 1, 1, 3, 7], 0), (.ifCond .eq 11, [32], 0), (.aload_n 0, [], 0), (.iload_n 1, [], 0), (.invokevirtual 161, [95, 2, 1, 6, 7], 0), (.goto 5, [34], 0)]),
  (32, [(.bipush (-103), [], 0), (.nop, [34], 0)]),
  (34, [(.ireturn, [0], 0)])]
/-- MindReadersModel.isAmong(II)Z -/
def zc_122 : List (Nat × List zE) := [(0, [(.aload_n 0, [], 0), (.getfield 31, [7, 14, 2], 0), (.bipush 11, [], 0), (.iload_n 1, [], 0), (.imul, [], 0), (.iaload, [], 0), (.iconst 4, [], 0), (.if_icmp .gt 7, [17, 1, 1, 1], 0), (.iconst 1, [], 0), (.goto 4, [18, 1, 1, 1], 0)]),
  (17, [(.iconst 0, [], 0), (.nop, [18, 1, 1, 1], 0)]),
  (18, [(.istore_n 3, [], 0), (.iconst 0, [], 0), (.istore 4, [], 0), (.nop, [22, 1, 1, 1, 1, 1], 0)]),
  (22, [(.iload 4, [], 0), (.aload_n 0, [], 0), (.getfield 31, [7, 14, 2], 0), (.bipush 11, [], 0), (.iload_n 1, [], 0), (.imul, [], 0), (.iaload, [], 0), (.if_icmp .ge 37, [70, 0, 0, 0, 1], 0), (.iload_n 3, [], 0), (.ifCond .eq 25, [62, 1, 1, 1, 0, 1], 0), (.aload_n 0, [], 0), (.getfield 31, [7, 14, 2], 0), (.bipush 11, [], 0), (.iload_n 1, [], 0), (.imul, [], 0), (.iconst 1, [], 0), (.iadd, [], 0), (.iload 4, [], 0), (.iadd, [], 0), (.iaload, [], 0), (.iload_n 2, [], 0), (.if_icmp .ge 7, [62, 1, 1, 1, 0, 1], 0), (.iconst 1, [], 0), (.goto 4, [63, 1, 1, 1, 0, 1], 0)]),
  (62, [(.iconst 0, [], 0), (.nop, [63, 1, 1, 1, 0, 1], 0)]),
  (63, [(.istore_n 3, [], 0), (.iinc 4 1, [], 0), (.goto (-45), [22, 1, 1, 1, 1, 1], 0)]),
  (70, [(.iload_n 3, [], 0), (.ireturn, [1], 0)])]
/-- MindReadersModel.right(IIIII)J -/
def zc_123 : List (Nat × List zE) := [(0, [(.aload_n 0, [], 0), (.iload_n 1, [], 0), (.invokevirtual 138, [74, 2, 1, 2, 7], 0), (.ifCond .eq 20, [25], 0), (.iload_n 2, [], 0), (.i2l, [], 0), (.lconst 0, [], 0), (.aload_n 0, [], 0), (.iload_n 1, [], 0), (.invokevirtual 196, [105, 2, 1, 2, 7], 0), (.iconst 1, [], 0), (.isub, [], 0), (.i2l, [], 0), (.invokestatic 75, [67, 3, 1, 6], 0), (.ifCond .ne 7, [29, 1, 1, 1, 1, 1, 1], 0), (.nop, [25], 0)]),
  (25, [(.ldc2_w 233, [], -101), (.lreturn, [], 0)]),
  (29, [(.iload_n 3, [], 0), (.i2l, [], 0), (.ldc2_w 168, [], 2), (.ldc2_w 225, [], 8), (.invokestatic 75, [67, 3, 1, 6], 0), (.ifCond .eq 24, [64], 0), (.iload 4, [], 0), (.i2l, [], 0), (.lconst 0, [], 0), (.ldc2_w 212, [], 10), (.invokestatic 75, [67, 3, 1, 6], 0), (.ifCond .eq 11, [64], 0), (.iload 5, [], 0), (.invokestatic 193, [108, 1, 1, 1], 0), (.ifCond .ne 7, [68, 1, 1, 1, 1, 1, 1], 0), (.nop, [64], 0)]),
  (64, [(.ldc2_w 235, [], -102), (.lreturn, [], 0)]),
  (68, [(.aload_n 0, [], 0), (.iload_n 1, [], 0), (.iconst 0, [], 0), (.invokevirtual 153, [87, 3, 0, 5, 7], 0), (.aload_n 0, [], 0), (.iload_n 2, [], 0), (.iload_n 3, [], 0), (.invokevirtual 237, [122, 3, 1, 5, 7], 0), (.ifCond .ne 7, [87, 1, 1, 1, 1, 1, 1], 0), (.ldc2_w 240, [], -103), (.lreturn, [], 0)]),
  (87, [(.aload_n 0, [], 0), (.getfield 31, [7, 14, 2], 0), (.bipush 11, [], 0), (.iload_n 2, [], 0), (.imul, [], 0), (.iaload, [], 0), (.istore 6, [], 0), (.iconst 1, [], 0), (.istore 7, [], 0), (.lconst 1, [], 0), (.lstore 8, [], 0), (.iconst 0, [], 0), (.istore 10, [], 0), (.nop, [107, 1, 1, 1, 1, 1, 1, 1, 1, 1, 0, 1], 0)]),
  (107, [(.iload 10, [], 0), (.iload 6, [], 0), (.if_icmp .ge 28, [139, 1, 1, 1, 1, 1, 1, 1, 1, 1], 0), (.iload 7, [], 0), (.iload_n 3, [], 0), (.imul, [], 0), (.istore 7, [], 0), (.lload 8, [], 0), (.ldc2_w 212, [], 10), (.iload_n 3, [], 0), (.iconst 1, [], 0), (.isub, [], 0), (.i2l, [], 0), (.lmul, [], 0), (.lmul, [], 0), (.lstore 8, [], 0), (.iinc 10 1, [], 0), (.goto (-29), [107, 1, 1, 1, 1, 1, 1, 1, 1, 1, 0, 1], 0)]),
  (139, [(.lconst 0, [], 0), (.lstore 10, [], 0), (.aload_n 0, [], 0), (.iload 6, [], 0), (.putfield 114, [7, 13, 0], 0), (.iconst 0, [], 0), (.istore 12, [], 0), (.nop, [151, 1, 1, 1, 1, 1, 1, 1, 1, 1, 0, 1, 0, 1], 0)]),
  (151, [(.iload 12, [], 0), (.iload 7, [], 0), (.if_icmp .ge 116, [271, 0, 0, 0, 0, 0, 1, 0, 0, 1, 0, 1], 0), (.iload 12, [], 0), (.istore 13, [], 0), (.lconst 1, [], 0), (.lstore 14, [], 0), (.iconst 0, [], 0), (.istore 16, [], 0), (.nop, [168, 1, 1, 1, 1, 1, 1, 1, 1, 1, 0, 1, 0, 1, 1, 1, 0, 1], 0)]),
  (168, [(.iload 16, [], 0), (.iload 6, [], 0), (.if_icmp .ge 73, [245, 1, 1, 1, 1, 1, 1, 1, 1, 1, 0, 1, 0, 1, 0, 1], 0), (.aload_n 0, [], 0), (.getfield 28, [7, 12, 2], 0), (.iload 16, [], 0), (.iload 13, [], 0), (.iload_n 3, [], 0), (.irem, [], 0), (.iastore, [], 0), (.iload 13, [], 0), (.iload_n 3, [], 0), (.idiv, [], 0), (.istore 13, [], 0), (.lload 14, [], 0), (.aload_n 0, [], 0), (.getfield 28, [7, 12, 2], 0), (.iload 16, [], 0), (.iaload, [], 0), (.aload_n 0, [], 0), (.getfield 31, [7, 14, 2], 0), (.bipush 11, [], 0), (.iload_n 2, [], 0), (.imul, [], 0), (.iconst 1, [], 0), (.iadd, [], 0), (.iload 16, [], 0), (.iadd, [], 0), (.iaload, [], 0), (.if_icmp .ne 18, [233, 1, 1, 1, 1, 1, 1, 1, 1, 1, 0, 1, 0, 1, 1, 0, 0, 1], 0), (.ldc2_w 212, [], 10), (.iload 4, [], 0), (.i2l, [], 0), (.lsub, [], 0), (.iload_n 3, [], 0), (.iconst 1, [], 0), (.isub, [], 0), (.i2l, [], 0), (.lmul, [], 0), (.goto 6, [236, 1, 1, 1, 1, 1, 1, 1, 1, 1, 0, 1, 0, 1, 1, 0, 0, 1], 0)]),
  (233, [(.iload 4, [], 0), (.i2l, [], 0), (.nop, [236, 1, 1, 1, 1, 1, 1, 1, 1, 1, 0, 1, 0, 1, 1, 0, 0, 1], 0)]),
  (236, [(.lmul, [], 0), (.lstore 14, [], 0), (.iinc 16 1, [], 0), (.goto (-74), [168, 1, 1, 1, 1, 1, 1, 1, 1, 1, 0, 1, 0, 1, 1, 1, 0, 1], 0)]),
  (245, [(.lload 10, [], 0), (.aload_n 0, [], 0), (.iload_n 1, [], 0), (.invokevirtual 161, [95, 2, 1, 6, 7], 0), (.iload_n 2, [], 0), (.if_icmp .ne 8, [261, 1, 1, 1, 1, 1, 1, 1, 1, 1, 0, 0, 0, 1], 0), (.lload 14, [], 0), (.goto 4, [262, 1, 1, 1, 1, 1, 1, 1, 1, 1, 0, 0, 0, 1], 0)]),
  (261, [(.lconst 0, [], 0), (.nop, [262, 1, 1, 1, 1, 1, 1, 1, 1, 1, 0, 0, 0, 1], 0)]),
  (262, [(.ladd, [], 0), (.lstore 10, [], 0), (.iinc 12 1, [], 0), (.goto (-117), [151, 1, 1, 1, 1, 1, 1, 1, 1, 1, 0, 1, 0, 1], 0)]),
  (271, [(.lload 10, [], 0), (.lload 8, [], 0), (.iload 5, [], 0), (.invokestatic 202, [107, 3, 2, 7], 0), (.lreturn, [], 0)])]
/-- MindReadersModel.note(I)I -/
def zc_124 : List (Nat × List zE) := [(0, [(.aload_n 0, [], 0), (.iload_n 1, [], 0), (.invokevirtual 107, [80, 2, 1, 2, 7], 0), (.ifCond .ne 6, [11, 1, 1], 0), (.bipush (-101), [], 0), (.ireturn, [0], 0)]),
  (11, [(.aload_n 0, [], 0), (.invokevirtual 157, [93, 1, 1, 3, 7], 0), (.ifCond .eq 12, [27], 0), (.aload_n 0, [], 0), (.getfield 62, [7, 1, 0], 0), (.bipush 8, [], 0), (.if_icmp .le 6, [30, 1, 1], 0), (.nop, [27], 0)]),
  (27, [(.bipush (-103), [], 0), (.ireturn, [0], 0)]),
  (30, [(.aload_n 0, [], 0), (.getfield 242, [7, 18, 0], 0), (.bipush 10, [], 0), (.if_icmp .ne 6, [42, 1, 1], 0), (.bipush (-104), [], 0), (.ireturn, [0], 0)]),
  (42, [(.aload_n 0, [], 0), (.getfield 40, [7, 19, 2], 0), (.bipush 10, [], 0), (.aload_n 0, [], 0), (.getfield 242, [7, 18, 0], 0), (.imul, [], 0), (.iload_n 1, [], 0), (.iastore, [], 0), (.aload_n 0, [], 0), (.getfield 40, [7, 19, 2], 0), (.bipush 10, [], 0), (.aload_n 0, [], 0), (.getfield 242, [7, 18, 0], 0), (.imul, [], 0), (.iconst 1, [], 0), (.iadd, [], 0), (.aload_n 0, [], 0), (.getfield 62, [7, 1, 0], 0), (.iastore, [], 0), (.iconst 0, [], 0), (.istore_n 2, [], 0), (.nop, [75, 1, 0, 1], 0)]),
  (75, [(.iload_n 2, [], 0), (.aload_n 0, [], 0), (.getfield 62, [7, 1, 0], 0), (.if_icmp .ge 34, [114, 1], 0), (.aload_n 0, [], 0), (.getfield 40, [7, 19, 2], 0), (.bipush 10, [], 0), (.aload_n 0, [], 0), (.getfield 242, [7, 18, 0], 0), (.imul, [], 0), (.iconst 2, [], 0), (.iadd, [], 0), (.iload_n 2, [], 0), (.iadd, [], 0), (.aload_n 0, [], 0), (.getfield 7, [7, 0, 2], 0), (.iload_n 2, [], 0), (.iaload, [], 0), (.bipush 97, [], 0), (.isub, [], 0), (.iastore, [], 0), (.iinc 2 1, [], 0), (.goto (-36), [75, 1, 0, 1], 0)]),
  (114, [(.aload_n 0, [], 0), (.dup, [], 0), (.getfield 242, [7, 18, 0], 0), (.iconst 1, [], 0), (.iadd, [], 0), (.putfield 242, [7, 18, 0], 0), (.aload_n 0, [], 0), (.iconst 0, [], 0), (.putfield 62, [7, 1, 0], 0), (.aload_n 0, [], 0), (.getfield 242, [7, 18, 0], 0), (.ireturn, [0], 0)])]
/-- MindReadersModel.forget()I -/
def zc_125 : List (Nat × List zE) := [(0, [(.aload_n 0, [], 0), (.getfield 242, [7, 18, 0], 0), (.istore_n 1, [], 0), (.aload_n 0, [], 0), (.iconst 0, [], 0), (.putfield 242, [7, 18, 0], 0), (.iload_n 1, [], 0), (.ireturn, [0], 0)])]
/-- MindReadersModel.isSaid(III)Z -/
def zc_126 : List (Nat × List zE) := [(0, [(.iload_n 3, [], 0), (.aload_n 0, [], 0), (.getfield 16, [7, 6, 2], 0), (.iload_n 2, [], 0), (.iaload, [], 0), (.if_icmp .lt 5, [12, 1, 1, 0, 1], 0), (.iconst 0, [], 0), (.ireturn, [1], 0)]),
  (12, [(.aload_n 0, [], 0), (.iconst 0, [], 0), (.putfield 114, [7, 13, 0], 0), (.iconst 0, [], 0), (.istore 4, [], 0), (.nop, [20, 1, 1, 0, 1, 1], 0)]),
  (20, [(.iload 4, [], 0), (.aload_n 0, [], 0), (.getfield 40, [7, 19, 2], 0), (.bipush 10, [], 0), (.iload_n 1, [], 0), (.imul, [], 0), (.iconst 1, [], 0), (.iadd, [], 0), (.iaload, [], 0), (.if_icmp .ge 27, [60, 1, 0, 0, 1], 0), (.aload_n 0, [], 0), (.aload_n 0, [], 0), (.getfield 40, [7, 19, 2], 0), (.bipush 10, [], 0), (.iload_n 1, [], 0), (.imul, [], 0), (.iconst 2, [], 0), (.iadd, [], 0), (.iload 4, [], 0), (.iadd, [], 0), (.iaload, [], 0), (.invokevirtual 117, [85, 2, 0, 3, 7], 0), (.iinc 4 1, [], 0), (.goto (-37), [20, 1, 1, 0, 1, 1], 0)]),
  (60, [(.aload_n 0, [], 0), (.iload_n 3, [], 0), (.invokevirtual 150, [94, 2, 1, 4, 7], 0), (.ifCond .ne 7, [72], 0), (.iconst 1, [], 0), (.goto 4, [73], 0)]),
  (72, [(.iconst 0, [], 0), (.nop, [73], 0)]),
  (73, [(.ireturn, [1], 0)])]
/-- MindReadersModel.whichNow()I -/
def zc_127 : List (Nat × List zE) := [(0, [(.iconst 0, [], 0), (.istore_n 1, [], 0), (.iconst 0, [], 0), (.istore_n 2, [], 0), (.nop, [4, 1, 1, 1], 0)]),
  (4, [(.iload_n 2, [], 0), (.aload_n 0, [], 0), (.getfield 87, [7, 5, 0], 0), (.if_icmp .ge 79, [88, 0, 1], 0), (.aload_n 0, [], 0), (.iload_n 2, [], 0), (.iconst 0, [], 0), (.invokevirtual 153, [87, 3, 0, 5, 7], 0), (.iconst 1, [], 0), (.istore_n 3, [], 0), (.iconst 0, [], 0), (.istore 4, [], 0), (.nop, [23, 1, 1, 1, 1, 1], 0)]),
  (23, [(.iload 4, [], 0), (.aload_n 0, [], 0), (.getfield 242, [7, 18, 0], 0), (.if_icmp .ge 39, [68, 1, 1, 1, 1], 0), (.iload_n 3, [], 0), (.ifCond .eq 27, [60, 1, 1, 1, 0, 1], 0), (.aload_n 0, [], 0), (.iload 4, [], 0), (.iload_n 2, [], 0), (.aload_n 0, [], 0), (.getfield 40, [7, 19, 2], 0), (.bipush 10, [], 0), (.iload 4, [], 0), (.imul, [], 0), (.iaload, [], 0), (.invokevirtual 245, [126, 4, 1, 5, 7], 0), (.ifCond .eq 7, [60, 1, 1, 1, 0, 1], 0), (.iconst 1, [], 0), (.goto 4, [61, 1, 1, 1, 0, 1], 0)]),
  (60, [(.iconst 0, [], 0), (.nop, [61, 1, 1, 1, 0, 1], 0)]),
  (61, [(.istore_n 3, [], 0), (.iinc 4 1, [], 0), (.goto (-42), [23, 1, 1, 1, 1, 1], 0)]),
  (68, [(.iload_n 1, [], 0), (.iload_n 3, [], 0), (.ifCond .eq 9, [79, 1, 0, 1], 0), (.iconst 1, [], 0), (.iload_n 2, [], 0), (.ishl, [], 0), (.goto 4, [80, 1, 0, 1], 0)]),
  (79, [(.iconst 0, [], 0), (.nop, [80, 1, 0, 1], 0)]),
  (80, [(.ior, [], 0), (.istore_n 1, [], 0), (.iinc 2 1, [], 0), (.goto (-81), [4, 1, 1, 1], 0)]),
  (88, [(.iload_n 1, [], 0), (.ireturn, [0], 0)])]
/-- MindReadersModel.which()I -/
def zc_128 : List (Nat × List zE) := [(0, [(.aload_n 0, [], 0), (.invokevirtual 248, [127, 1, 1, 5, 7], 0), (.ireturn, [0], 0)])]
/-- MindReadersModel.step(II)I -/
def zc_129 : List (Nat × List zE) := [(0, [(.aload_n 0, [], 0), (.iload_n 1, [], 0), (.invokevirtual 138, [74, 2, 1, 2, 7], 0), (.ifCond .ne 6, [11, 1, 1, 1], 0), (.bipush (-101), [], 0), (.ireturn, [0], 0)]),
  (11, [(.iload_n 2, [], 0), (.i2l, [], 0), (.lconst 0, [], 0), (.ldc2_w 102, [], 99), (.invokestatic 75, [67, 3, 1, 6], 0), (.ifCond .ne 6, [26, 1, 1, 1], 0), (.bipush (-102), [], 0), (.ireturn, [0], 0)]),
  (26, [(.aload_n 0, [], 0), (.iload_n 1, [], 0), (.invokevirtual 196, [105, 2, 1, 2, 7], 0), (.istore_n 3, [], 0), (.iload_n 3, [], 0), (.ifCond .ne 6, [39, 1, 1, 1, 1], 0), (.bipush (-103), [], 0), (.ireturn, [0], 0)]),
  (39, [(.aload_n 0, [], 0), (.iload_n 1, [], 0), (.iconst 0, [], 0), (.invokevirtual 153, [87, 3, 0, 5, 7], 0), (.iconst 0, [], 0), (.istore 4, [], 0), (.nop, [48, 1, 1, 1, 1, 1], 0)]),
  (48, [(.iload 4, [], 0), (.bipush 8, [], 0), (.if_icmp .ge 87, [139], 0), (.iconst 1, [], 0), (.istore 5, [], 0), (.iconst 0, [], 0), (.istore 6, [], 0), (.nop, [61, 1, 1, 1, 1, 1, 1, 1], 0)]),
  (61, [(.iload 6, [], 0), (.aload_n 0, [], 0), (.getfield 242, [7, 18, 0], 0), (.if_icmp .ge 58, [125, 1, 1, 1, 1, 1, 1], 0), (.aload_n 0, [], 0), (.getfield 40, [7, 19, 2], 0), (.bipush 10, [], 0), (.iload 6, [], 0), (.imul, [], 0), (.iaload, [], 0), (.istore 7, [], 0), (.iload 5, [], 0), (.ifCond .eq 32, [116, 1, 1, 1, 1, 1, 0, 1], 0), (.iload 7, [], 0), (.iload_n 3, [], 0), (.if_icmp .ge 26, [116, 1, 1, 1, 1, 1, 0, 1], 0), (.aload_n 0, [], 0), (.iload 6, [], 0), (.iload_n 1, [], 0), (.iload 7, [], 0), (.iload 4, [], 0), (.iload_n 2, [], 0), (.imul, [], 0), (.iadd, [], 0), (.iload_n 3, [], 0), (.irem, [], 0), (.invokevirtual 245, [126, 4, 1, 5, 7], 0), (.ifCond .eq 7, [116, 1, 1, 1, 1, 1, 0, 1], 0), (.iconst 1, [], 0), (.goto 4, [117, 1, 1, 1, 1, 1, 0, 1], 0)]),
  (116, [(.iconst 0, [], 0), (.nop, [117, 1, 1, 1, 1, 1, 0, 1], 0)]),
  (117, [(.istore 5, [], 0), (.iinc 6 1, [], 0), (.goto (-61), [61, 1, 1, 1, 1, 1, 1, 1], 0)]),
  (125, [(.iload 5, [], 0), (.ifCond .eq 6, [133, 1, 1, 1, 1, 1], 0), (.iload 4, [], 0), (.ireturn, [0], 0)]),
  (133, [(.iinc 4 1, [], 0), (.goto (-88), [48, 1, 1, 1, 1, 1], 0)]),
  (139, [(.iconst (-1), [], 0), (.ireturn, [0], 0)])]
/-- MindReadersModel.seen(II)J -/
def zc_130 : List (Nat × List zE) := [(0, [(.iload_n 1, [], 0), (.i2l, [], 0), (.lconst 1, [], 0), (.ldc2_w 251, [], 6), (.invokestatic 75, [67, 3, 1, 6], 0), (.ifCond .eq 10, [19], 0), (.iload_n 2, [], 0), (.invokestatic 193, [108, 1, 1, 1], 0), (.ifCond .ne 7, [23, 1, 1, 1], 0), (.nop, [19], 0)]),
  (19, [(.ldc2_w 235, [], -102), (.lreturn, [], 0)]),
  (23, [(.aload_n 0, [], 0), (.getfield 104, [7, 10, 0], 0), (.ifCond .ne 7, [34, 1, 1, 1], 0), (.ldc2_w 240, [], -103), (.lreturn, [], 0)]),
  (34, [(.iconst 0, [], 0), (.istore_n 3, [], 0), (.nop, [36, 1, 1, 1, 1], 0)]),
  (36, [(.iload_n 3, [], 0), (.sipush 256, [], 0), (.if_icmp .ge 24, [64, 1, 1, 1], 0), (.aload_n 0, [], 0), (.getfield 43, [7, 20, 2], 0), (.iload_n 3, [], 0), (.iload_n 3, [], 0), (.ifCond .ne 7, [56, 1, 1, 1, 1], 0), (.lconst 1, [], 0), (.goto 4, [57, 1, 1, 1, 1], 0)]),
  (56, [(.lconst 0, [], 0), (.nop, [57, 1, 1, 1, 1], 0)]),
  (57, [(.lastore, [], 0), (.iinc 3 1, [], 0), (.goto (-25), [36, 1, 1, 1, 1], 0)]),
  (64, [(.lconst 1, [], 0), (.lstore_n 3, [], 0), (.iconst 0, [], 0), (.istore 5, [], 0), (.nop, [69, 1, 1, 1, 1, 0, 1], 0)]),
  (69, [(.iload 5, [], 0), (.iload_n 1, [], 0), (.if_icmp .ge 138, [210, 1, 0, 1, 1], 0), (.lload_n 3, [], 0), (.aload_n 0, [], 0), (.aload_n 0, [], 0), (.getfield 104, [7, 10, 0], 0), (.invokevirtual 199, [109, 2, 1, 4, 7], 0), (.i2l, [], 0), (.lmul, [], 0), (.lstore_n 3, [], 0), (.iconst 0, [], 0), (.istore 6, [], 0), (.nop, [90, 1, 1, 1, 1, 0, 1, 1], 0)]),
  (90, [(.iload 6, [], 0), (.sipush 256, [], 0), (.if_icmp .ge 31, [126, 1, 1, 1, 1, 0, 1], 0), (.aload_n 0, [], 0), (.getfield 47, [7, 21, 2], 0), (.iload 6, [], 0), (.aload_n 0, [], 0), (.getfield 43, [7, 20, 2], 0), (.iload 6, [], 0), (.laload, [], 0), (.lastore, [], 0), (.aload_n 0, [], 0), (.getfield 43, [7, 20, 2], 0), (.iload 6, [], 0), (.lconst 0, [], 0), (.lastore, [], 0), (.iinc 6 1, [], 0), (.goto (-33), [90, 1, 1, 1, 1, 0, 1, 1], 0)]),
  (126, [(.iconst 0, [], 0), (.istore 6, [], 0), (.nop, [129, 1, 1, 1, 1, 0, 1, 1], 0)]),
  (129, [(.iload 6, [], 0), (.sipush 256, [], 0), (.if_icmp .ge 70, [204, 1, 1, 1, 1, 0, 1], 0), (.iconst 0, [], 0), (.istore 7, [], 0), (.nop, [140, 1, 1, 1, 1, 0, 1, 1, 1], 0)]),
  (140, [(.iload 7, [], 0), (.aload_n 0, [], 0), (.getfield 104, [7, 10, 0], 0), (.if_icmp .ge 52, [198, 1, 1, 1, 1, 0, 1, 1], 0), (.aload_n 0, [], 0), (.getfield 47, [7, 21, 2], 0), (.iload 6, [], 0), (.laload, [], 0), (.lconst 0, [], 0), (.lcmp, [], 0), (.ifCond .le 40, [198, 1, 1, 1, 1, 0, 1, 1], 0), (.aload_n 0, [], 0), (.getfield 43, [7, 20, 2], 0), (.iload 6, [], 0), (.iconst 1, [], 0), (.iload 7, [], 0), (.ishl, [], 0), (.ior, [], 0), (.dup2, [], 0), (.laload, [], 0), (.aload_n 0, [], 0), (.getfield 47, [7, 21, 2], 0), (.iload 6, [], 0), (.laload, [], 0), (.aload_n 0, [], 0), (.getfield 25, [7, 11, 2], 0), (.iload 7, [], 0), (.iaload, [], 0), (.i2l, [], 0), (.lmul, [], 0), (.ladd, [], 0), (.lastore, [], 0), (.iinc 7 1, [], 0), (.goto (-55), [140, 1, 1, 1, 1, 0, 1, 1, 1], 0)]),
  (198, [(.iinc 6 1, [], 0), (.goto (-72), [129, 1, 1, 1, 1, 0, 1, 1], 0)]),
  (204, [(.iinc 5 1, [], 0), (.goto (-138), [69, 1, 1, 1, 1, 0, 1], 0)]),
  (210, [(.aload_n 0, [], 0), (.getfield 43, [7, 20, 2], 0), (.iconst 1, [], 0), (.aload_n 0, [], 0), (.getfield 104, [7, 10, 0], 0), (.ishl, [], 0), (.iconst 1, [], 0), (.isub, [], 0), (.laload, [], 0), (.lload_n 3, [], 0), (.iload_n 2, [], 0), (.invokestatic 202, [107, 3, 2, 7], 0), (.lreturn, [], 0)])]
/-- MindReadersModel.isLike(III)Z -/
def zc_131 : List (Nat × List zE) := [(0, [(.bipush 48, [], 0), (.iload_n 1, [], 0), (.imul, [], 0), (.bipush 6, [], 0), (.iload_n 3, [], 0), (.imul, [], 0), (.iadd, [], 0), (.istore 4, [], 0), (.bipush 48, [], 0), (.iload_n 2, [], 0), (.imul, [], 0), (.bipush 6, [], 0), (.iload_n 3, [], 0), (.imul, [], 0), (.iadd, [], 0), (.istore 5, [], 0), (.aload_n 0, [], 0), (.getfield 19, [7, 7, 2], 0), (.iload 4, [], 0), (.iaload, [], 0), (.aload_n 0, [], 0), (.getfield 19, [7, 7, 2], 0), (.iload 5, [], 0), (.iaload, [], 0), (.if_icmp .ne 7, [43, 1, 0, 0, 0, 1, 1], 0), (.iconst 1, [], 0), (.goto 4, [44, 1, 0, 0, 0, 1, 1], 0)]),
  (43, [(.iconst 0, [], 0), (.nop, [44, 1, 0, 0, 0, 1, 1], 0)]),
  (44, [(.istore 6, [], 0), (.iconst 1, [], 0), (.istore 7, [], 0), (.nop, [49, 1, 0, 0, 0, 1, 1, 1, 1], 0)]),
  (49, [(.iload 7, [], 0), (.aload_n 0, [], 0), (.getfield 19, [7, 7, 2], 0), (.iload 4, [], 0), (.iaload, [], 0), (.if_icmp .gt 44, [102, 0, 0, 0, 0, 0, 0, 1], 0), (.iload 6, [], 0), (.ifCond .eq 39, [102, 0, 0, 0, 0, 0, 0, 1], 0), (.aload_n 0, [], 0), (.getfield 19, [7, 7, 2], 0), (.iload 4, [], 0), (.iload 7, [], 0), (.iadd, [], 0), (.iaload, [], 0), (.aload_n 0, [], 0), (.getfield 19, [7, 7, 2], 0), (.iload 5, [], 0), (.iload 7, [], 0), (.iadd, [], 0), (.iaload, [], 0), (.if_icmp .ne 7, [93, 1, 0, 0, 0, 1, 1, 0, 1], 0), (.iconst 1, [], 0), (.goto 4, [94, 1, 0, 0, 0, 1, 1, 0, 1], 0)]),
  (93, [(.iconst 0, [], 0), (.nop, [94, 1, 0, 0, 0, 1, 1, 0, 1], 0)]),
  (94, [(.istore 6, [], 0), (.iinc 7 1, [], 0), (.goto (-50), [49, 1, 0, 0, 0, 1, 1, 1, 1], 0)]),
  (102, [(.iload 6, [], 0), (.ireturn, [1], 0)])]
/-- MindReadersModel.changeOf(II)I -/
def zc_132 : List (Nat × List zE) := [(0, [(.iconst 0, [], 0), (.istore_n 3, [], 0), (.iconst 0, [], 0), (.istore 4, [], 0), (.nop, [5, 1, 1, 1, 1, 1], 0)]),
  (5, [(.iload 4, [], 0), (.aload_n 0, [], 0), (.getfield 16, [7, 6, 2], 0), (.iload_n 2, [], 0), (.iaload, [], 0), (.if_icmp .ge 57, [70, 0, 0, 0, 1], 0), (.iload 4, [], 0), (.aload_n 0, [], 0), (.getfield 16, [7, 6, 2], 0), (.iload_n 1, [], 0), (.iaload, [], 0), (.if_icmp .ge 18, [42, 1, 1, 1, 1, 1], 0), (.aload_n 0, [], 0), (.iload_n 1, [], 0), (.iload_n 2, [], 0), (.iload 4, [], 0), (.invokevirtual 253, [131, 4, 1, 8, 7], 0), (.ifCond .eq 7, [42, 1, 1, 1, 1, 1], 0), (.iconst 1, [], 0), (.goto 4, [43, 1, 1, 1, 1, 1], 0)]),
  (42, [(.iconst 0, [], 0), (.nop, [43, 1, 1, 1, 1, 1], 0)]),
  (43, [(.istore 5, [], 0), (.iload_n 3, [], 0), (.iload 5, [], 0), (.ifCond .eq 7, [55, 1, 1, 1, 0, 1], 0), (.iconst 0, [], 0), (.goto 10, [62, 1, 1, 1, 0, 1], 0)]),
  (55, [(.aload_n 0, [], 0), (.iload_n 2, [], 0), (.iload 4, [], 0), (.invokevirtual 134, [88, 3, 1, 6, 7], 0), (.nop, [62, 1, 1, 1, 0, 1], 0)]),
  (62, [(.iadd, [], 0), (.istore_n 3, [], 0), (.iinc 4 1, [], 0), (.goto (-62), [5, 1, 1, 1, 1, 1], 0)]),
  (70, [(.iload_n 3, [], 0), (.ireturn, [0], 0)])]
/-- MindReadersModel.change(II)I -/
def zc_133 : List (Nat × List zE) := [(0, [(.aload_n 0, [], 0), (.iload_n 1, [], 0), (.invokevirtual 138, [74, 2, 1, 2, 7], 0), (.ifCond .eq 20, [25], 0), (.aload_n 0, [], 0), (.iload_n 2, [], 0), (.invokevirtual 138, [74, 2, 1, 2, 7], 0), (.ifCond .eq 12, [25], 0), (.aload_n 0, [], 0), (.iload_n 1, [], 0), (.iload_n 2, [], 0), (.invokevirtual 256, [132, 3, 1, 6, 7], 0), (.goto 5, [27], 0)]),
  (25, [(.bipush (-101), [], 0), (.nop, [27], 0)]),
  (27, [(.ireturn, [0], 0)])]
/-- MindReadersModel.cheapest(I)I -/
def zc_134 : List (Nat × List zE) := [(0, [(.aload_n 0, [], 0), (.iload_n 1, [], 0), (.invokevirtual 138, [74, 2, 1, 2, 7], 0), (.ifCond .ne 6, [11, 1, 1], 0), (.bipush (-101), [], 0), (.ireturn, [0], 0)]),
  (11, [(.iconst (-1), [], 0), (.istore_n 2, [], 0), (.iconst 0, [], 0), (.istore_n 3, [], 0), (.iconst 0, [], 0), (.istore 4, [], 0), (.nop, [18, 1, 1, 1, 1, 1], 0)]),
  (18, [(.iload 4, [], 0), (.aload_n 0, [], 0), (.getfield 87, [7, 5, 0], 0), (.if_icmp .ge 66, [90, 0, 0, 1], 0), (.aload_n 0, [], 0), (.iload_n 1, [], 0), (.iload 4, [], 0), (.invokevirtual 256, [132, 3, 1, 6, 7], 0), (.istore 5, [], 0), (.iload 4, [], 0), (.iload_n 1, [], 0), (.if_icmp .eq 18, [57, 1, 1, 1, 1, 1, 1], 0), (.iload_n 2, [], 0), (.iconst (-1), [], 0), (.if_icmp .eq 9, [53, 1, 1, 1, 1, 1, 1], 0), (.iload 5, [], 0), (.iload_n 3, [], 0), (.if_icmp .ge 7, [57, 1, 1, 1, 1, 1, 1], 0), (.nop, [53, 1, 1, 1, 1, 1, 1], 0)]),
  (53, [(.iconst 1, [], 0), (.goto 4, [58, 1, 1, 1, 1, 1, 1], 0)]),
  (57, [(.iconst 0, [], 0), (.nop, [58, 1, 1, 1, 1, 1, 1], 0)]),
  (58, [(.istore 6, [], 0), (.iload 6, [], 0), (.ifCond .eq 8, [70, 1, 1, 1, 1, 1, 1, 1], 0), (.iload 4, [], 0), (.goto 4, [71, 1, 1, 0, 1, 1, 1, 1], 0)]),
  (70, [(.iload_n 2, [], 0), (.nop, [71, 1, 1, 0, 1, 1, 1, 1], 0)]),
  (71, [(.istore_n 2, [], 0), (.iload 6, [], 0), (.ifCond .eq 8, [82, 1, 1, 1, 1, 1], 0), (.iload 5, [], 0), (.goto 4, [83, 1, 1, 1, 0, 1], 0)]),
  (82, [(.iload_n 3, [], 0), (.nop, [83, 1, 1, 1, 0, 1], 0)]),
  (83, [(.istore_n 3, [], 0), (.iinc 4 1, [], 0), (.goto (-69), [18, 1, 1, 1, 1, 1], 0)]),
  (90, [(.iload_n 2, [], 0), (.ireturn, [0], 0)])]
/-- MindReadersModel.luck(IIII)J -/
def zc_135 : List (Nat × List zE) := [(0, [(.iload_n 1, [], 0), (.i2l, [], 0), (.lconst 1, [], 0), (.ldc2_w 259, [], 12), (.invokestatic 75, [67, 3, 1, 6], 0), (.ifCond .eq 36, [45], 0), (.iload_n 2, [], 0), (.i2l, [], 0), (.ldc2_w 168, [], 2), (.ldc2_w 95, [], 9), (.invokestatic 75, [67, 3, 1, 6], 0), (.ifCond .eq 22, [45], 0), (.iload_n 3, [], 0), (.i2l, [], 0), (.lconst 0, [], 0), (.iload_n 1, [], 0), (.i2l, [], 0), (.invokestatic 75, [67, 3, 1, 6], 0), (.ifCond .eq 11, [45], 0), (.iload 4, [], 0), (.invokestatic 193, [108, 1, 1, 1], 0), (.ifCond .ne 7, [49, 1, 1, 1, 1, 1], 0), (.nop, [45], 0)]),
  (45, [(.ldc2_w 235, [], -102), (.lreturn, [], 0)]),
  (49, [(.iconst 0, [], 0), (.istore 5, [], 0), (.nop, [52, 1, 1, 1, 1, 1, 1], 0)]),
  (52, [(.iload 5, [], 0), (.bipush 13, [], 0), (.if_icmp .ge 26, [82, 1, 1, 1, 1, 1], 0), (.aload_n 0, [], 0), (.getfield 43, [7, 20, 2], 0), (.iload 5, [], 0), (.iload 5, [], 0), (.ifCond .ne 7, [74, 1, 1, 1, 1, 1, 1], 0), (.lconst 1, [], 0), (.goto 4, [75, 1, 1, 1, 1, 1, 1], 0)]),
  (74, [(.lconst 0, [], 0), (.nop, [75, 1, 1, 1, 1, 1, 1], 0)]),
  (75, [(.lastore, [], 0), (.iinc 5 1, [], 0), (.goto (-27), [52, 1, 1, 1, 1, 1, 1], 0)]),
  (82, [(.lconst 1, [], 0), (.lstore 5, [], 0), (.iconst 0, [], 0), (.istore 7, [], 0), (.nop, [88, 1, 1, 1, 1, 1, 1, 0, 1], 0)]),
  (88, [(.iload 7, [], 0), (.iload_n 1, [], 0), (.if_icmp .ge 68, [159, 1, 1, 0, 1, 1, 1], 0), (.lload 5, [], 0), (.iload_n 2, [], 0), (.i2l, [], 0), (.lmul, [], 0), (.lstore 5, [], 0), (.iload_n 1, [], 0), (.istore 8, [], 0), (.nop, [104, 1, 1, 1, 1, 1, 1, 0, 1, 1], 0)]),
  (104, [(.iload 8, [], 0), (.ifCond .lt 47, [153, 1, 1, 1, 1, 1, 1, 0, 1], 0), (.aload_n 0, [], 0), (.getfield 43, [7, 20, 2], 0), (.iload 8, [], 0), (.aload_n 0, [], 0), (.getfield 43, [7, 20, 2], 0), (.iload 8, [], 0), (.laload, [], 0), (.iload_n 2, [], 0), (.iconst 1, [], 0), (.isub, [], 0), (.i2l, [], 0), (.lmul, [], 0), (.iload 8, [], 0), (.ifCond .le 15, [144, 1, 1, 1, 1, 1, 1, 0, 1, 1], 0), (.aload_n 0, [], 0), (.getfield 43, [7, 20, 2], 0), (.iload 8, [], 0), (.iconst 1, [], 0), (.isub, [], 0), (.laload, [], 0), (.goto 4, [145, 1, 1, 1, 1, 1, 1, 0, 1, 1], 0)]),
  (144, [(.lconst 0, [], 0), (.nop, [145, 1, 1, 1, 1, 1, 1, 0, 1, 1], 0)]),
  (145, [(.ladd, [], 0), (.lastore, [], 0), (.iinc 8 (-1), [], 0), (.goto (-46), [104, 1, 1, 1, 1, 1, 1, 0, 1, 1], 0)]),
  (153, [(.iinc 7 1, [], 0), (.goto (-68), [88, 1, 1, 1, 1, 1, 1, 0, 1], 0)]),
  (159, [(.lconst 0, [], 0), (.lstore 7, [], 0), (.iload_n 3, [], 0), (.istore 9, [], 0), (.nop, [165, 1, 1, 0, 0, 1, 1, 0, 1, 0, 1], 0)]),
  (165, [(.iload 9, [], 0), (.iload_n 1, [], 0), (.if_icmp .gt 21, [189, 0, 0, 0, 0, 1, 1, 0, 1], 0), (.lload 7, [], 0), (.aload_n 0, [], 0), (.getfield 43, [7, 20, 2], 0), (.iload 9, [], 0), (.laload, [], 0), (.ladd, [], 0), (.lstore 7, [], 0), (.iinc 9 1, [], 0), (.goto (-21), [165, 1, 1, 0, 0, 1, 1, 0, 1, 0, 1], 0)]),
  (189, [(.lload 7, [], 0), (.lload 5, [], 0), (.iload 4, [], 0), (.invokestatic 202, [107, 3, 2, 7], 0), (.lreturn, [], 0)])]
/-- MindReadersModel.leftOf(II)I -/
def zc_136 : List (Nat × List zE) := [(0, [(.aload_n 0, [], 0), (.iload_n 1, [], 0), (.iload_n 2, [], 0), (.invokevirtual 153, [87, 3, 0, 5, 7], 0), (.iconst 0, [], 0), (.istore_n 3, [], 0), (.iconst 0, [], 0), (.istore 4, [], 0), (.nop, [11, 1, 1, 0, 1, 1], 0)]),
  (11, [(.iload 4, [], 0), (.aload_n 0, [], 0), (.getfield 16, [7, 6, 2], 0), (.iload_n 1, [], 0), (.iaload, [], 0), (.if_icmp .ge 64, [83, 0, 0, 0, 1], 0), (.iconst 1, [], 0), (.istore 5, [], 0), (.iconst 0, [], 0), (.istore 6, [], 0), (.nop, [28, 1, 1, 0, 1, 1, 1, 1], 0)]),
  (28, [(.iload 6, [], 0), (.iload 4, [], 0), (.if_icmp .ge 32, [64, 1, 1, 0, 1, 1, 1], 0), (.iload 5, [], 0), (.ifCond .eq 18, [55, 1, 1, 0, 1, 1, 0, 1], 0), (.aload_n 0, [], 0), (.iload 4, [], 0), (.iload 6, [], 0), (.invokevirtual 164, [92, 3, 1, 3, 7], 0), (.ifCond .ne 7, [55, 1, 1, 0, 1, 1, 0, 1], 0), (.iconst 1, [], 0), (.goto 4, [56, 1, 1, 0, 1, 1, 0, 1], 0)]),
  (55, [(.iconst 0, [], 0), (.nop, [56, 1, 1, 0, 1, 1, 0, 1], 0)]),
  (56, [(.istore 5, [], 0), (.iinc 6 1, [], 0), (.goto (-33), [28, 1, 1, 0, 1, 1, 1, 1], 0)]),
  (64, [(.iload_n 3, [], 0), (.iload 5, [], 0), (.ifCond .eq 7, [74, 1, 1, 0, 0, 1], 0), (.iconst 1, [], 0), (.goto 4, [75, 1, 1, 0, 0, 1], 0)]),
  (74, [(.iconst 0, [], 0), (.nop, [75, 1, 1, 0, 0, 1], 0)]),
  (75, [(.iadd, [], 0), (.istore_n 3, [], 0), (.iinc 4 1, [], 0), (.goto (-69), [11, 1, 1, 0, 1, 1], 0)]),
  (83, [(.iload_n 3, [], 0), (.ireturn, [0], 0)])]
/-- MindReadersModel.left(II)I -/
def zc_137 : List (Nat × List zE) := [(0, [(.aload_n 0, [], 0), (.iload_n 1, [], 0), (.invokevirtual 138, [74, 2, 1, 2, 7], 0), (.ifCond .ne 6, [11, 1, 1, 1], 0), (.bipush (-101), [], 0), (.ireturn, [0], 0)]),
  (11, [(.iload_n 2, [], 0), (.i2l, [], 0), (.lconst 0, [], 0), (.ldc2_w 60, [], 255), (.invokestatic 75, [67, 3, 1, 6], 0), (.ifCond .eq 12, [32], 0), (.aload_n 0, [], 0), (.iload_n 1, [], 0), (.iload_n 2, [], 0), (.invokevirtual 261, [136, 3, 1, 7, 7], 0), (.goto 5, [34], 0)]),
  (32, [(.bipush (-102), [], 0), (.nop, [34], 0)]),
  (34, [(.ireturn, [0], 0)])]
/-- MindReadersModel.stopOf(I)I -/
def zc_138 : List (Nat × List zE) := [(0, [(.sipush 255, [], 0), (.istore_n 2, [], 0), (.bipush 8, [], 0), (.istore_n 3, [], 0), (.iconst 0, [], 0), (.istore 4, [], 0), (.nop, [10, 1, 1, 1, 1, 1], 0)]),
  (10, [(.iload 4, [], 0), (.sipush 256, [], 0), (.if_icmp .ge 63, [78, 0, 0, 1], 0), (.iconst 0, [], 0), (.istore 5, [], 0), (.iconst 0, [], 0), (.istore 6, [], 0), (.nop, [24, 1, 1, 1, 1, 1, 1, 1], 0)]),
  (24, [(.iload 6, [], 0), (.bipush 8, [], 0), (.if_icmp .ge 21, [49, 1, 1, 1, 1, 1, 1], 0), (.iload 5, [], 0), (.iload 4, [], 0), (.iload 6, [], 0), (.ishr, [], 0), (.iconst 1, [], 0), (.iand, [], 0), (.iadd, [], 0), (.istore 5, [], 0), (.iinc 6 1, [], 0), (.goto (-22), [24, 1, 1, 1, 1, 1, 1, 1], 0)]),
  (49, [(.iload 5, [], 0), (.iload_n 3, [], 0), (.if_icmp .ge 20, [72, 1, 1, 1, 1, 1], 0), (.aload_n 0, [], 0), (.iload_n 1, [], 0), (.iload 4, [], 0), (.invokevirtual 261, [136, 3, 1, 7, 7], 0), (.iconst 2, [], 0), (.if_icmp .ge 9, [72, 1, 1, 1, 1, 1], 0), (.iload 4, [], 0), (.istore_n 2, [], 0), (.iload 5, [], 0), (.istore_n 3, [], 0), (.nop, [72, 1, 1, 1, 1, 1], 0)]),
  (72, [(.iinc 4 1, [], 0), (.goto (-65), [10, 1, 1, 1, 1, 1], 0)]),
  (78, [(.iload_n 2, [], 0), (.ireturn, [0], 0)])]
/-- MindReadersModel.stop(I)I -/
def zc_139 : List (Nat × List zE) := [(0, [(.aload_n 0, [], 0), (.iload_n 1, [], 0), (.invokevirtual 138, [74, 2, 1, 2, 7], 0), (.ifCond .eq 11, [16], 0), (.aload_n 0, [], 0), (.iload_n 1, [], 0), (.invokevirtual 264, [138, 2, 1, 7, 7], 0), (.goto 5, [18], 0)]),
  (16, [(.bipush (-101), [], 0), (.nop, [18], 0)]),
  (18, [(.ireturn, [0], 0)])]
/-- MindReadersModel.image()I -/
def zc_140 : List (Nat × List zE) := [(0, [(.iconst 0, [], 0), (.istore_n 1, [], 0), (.nop, [2, 1, 1], 0)]),
  (2, [(.iload_n 1, [], 0), (.bipush 8, [], 0), (.if_icmp .ge 21, [26, 1], 0), (.aload_n 0, [], 0), (.getfield 50, [7, 24, 2], 0), (.iload_n 1, [], 0), (.aload_n 0, [], 0), (.getfield 25, [7, 11, 2], 0), (.iload_n 1, [], 0), (.iaload, [], 0), (.iastore, [], 0), (.iinc 1 1, [], 0), (.goto (-21), [2, 1, 1], 0)]),
  (26, [(.iconst 0, [], 0), (.istore_n 1, [], 0), (.nop, [28, 1, 1], 0)]),
  (28, [(.iload_n 1, [], 0), (.bipush 100, [], 0), (.if_icmp .ge 21, [52, 1], 0), (.aload_n 0, [], 0), (.getfield 53, [7, 25, 2], 0), (.iload_n 1, [], 0), (.aload_n 0, [], 0), (.getfield 40, [7, 19, 2], 0), (.iload_n 1, [], 0), (.iaload, [], 0), (.iastore, [], 0), (.iinc 1 1, [], 0), (.goto (-21), [28, 1, 1], 0)]),
  (52, [(.aload_n 0, [], 0), (.aload_n 0, [], 0), (.getfield 242, [7, 18, 0], 0), (.putfield 267, [7, 23, 0], 0), (.aload_n 0, [], 0), (.aload_n 0, [], 0), (.getfield 104, [7, 10, 0], 0), (.putfield 56, [7, 22, 0], 0), (.aload_n 0, [], 0), (.getfield 104, [7, 10, 0], 0), (.ireturn, [0], 0)])]
/-- MindReadersModel.restore()I -/
def zc_141 : List (Nat × List zE) := [(0, [(.aload_n 0, [], 0), (.getfield 56, [7, 22, 0], 0), (.iconst (-1), [], 0), (.if_icmp .ne 6, [11, 1], 0), (.bipush (-103), [], 0), (.ireturn, [0], 0)]),
  (11, [(.iconst 0, [], 0), (.istore_n 1, [], 0), (.nop, [13, 1, 1], 0)]),
  (13, [(.iload_n 1, [], 0), (.aload_n 0, [], 0), (.getfield 56, [7, 22, 0], 0), (.if_icmp .ge 21, [39, 1], 0), (.aload_n 0, [], 0), (.getfield 25, [7, 11, 2], 0), (.iload_n 1, [], 0), (.aload_n 0, [], 0), (.getfield 50, [7, 24, 2], 0), (.iload_n 1, [], 0), (.iaload, [], 0), (.iastore, [], 0), (.iinc 1 1, [], 0), (.goto (-23), [13, 1, 1], 0)]),
  (39, [(.iconst 0, [], 0), (.istore_n 1, [], 0), (.nop, [41, 1, 1], 0)]),
  (41, [(.iload_n 1, [], 0), (.bipush 100, [], 0), (.if_icmp .ge 21, [65, 1], 0), (.aload_n 0, [], 0), (.getfield 40, [7, 19, 2], 0), (.iload_n 1, [], 0), (.aload_n 0, [], 0), (.getfield 53, [7, 25, 2], 0), (.iload_n 1, [], 0), (.iaload, [], 0), (.iastore, [], 0), (.iinc 1 1, [], 0), (.goto (-21), [41, 1, 1], 0)]),
  (65, [(.aload_n 0, [], 0), (.aload_n 0, [], 0), (.getfield 267, [7, 23, 0], 0), (.putfield 242, [7, 18, 0], 0), (.aload_n 0, [], 0), (.getfield 104, [7, 10, 0], 0), (.ireturn, [0], 0)])]
/-- MindReadersModel.countOf(I)I -/
def zc_142 : List (Nat × List zE) := [(0, [(.iload_n 1, [], 0), (.tableswitch 73 0 5 #[39, 44, 49, 54, 59, 64], [1, 74, 1, 40, 45, 50, 55, 60, 65], 39)]),
  (40, [(.aload_n 0, [], 0), (.getfield 92, [7, 8, 0], 0), (.ireturn, [0], 0)]),
  (45, [(.aload_n 0, [], 0), (.getfield 104, [7, 10, 0], 0), (.ireturn, [0], 0)]),
  (50, [(.aload_n 0, [], 0), (.getfield 87, [7, 5, 0], 0), (.ireturn, [0], 0)]),
  (55, [(.aload_n 0, [], 0), (.getfield 242, [7, 18, 0], 0), (.ireturn, [0], 0)]),
  (60, [(.aload_n 0, [], 0), (.getfield 62, [7, 1, 0], 0), (.ireturn, [0], 0)]),
  (65, [(.aload_n 0, [], 0), (.aload_n 0, [], 0), (.getfield 104, [7, 10, 0], 0), (.invokevirtual 199, [109, 2, 1, 4, 7], 0), (.ireturn, [0], 0)]),
  (74, [(.bipush (-102), [], 0), (.ireturn, [0], 0)])]
/-- MindReadersModel.count(I)I -/
def zc_143 : List (Nat × List zE) := [(0, [(.aload_n 0, [], 0), (.iload_n 1, [], 0), (.invokevirtual 270, [142, 2, 1, 2, 7], 0), (.ireturn, [0], 0)])]
/-- MindReadersModel.say(J)V -/
def zc_144 : List (Nat × List zE) := [(0, [(.aload_n 0, [], 0), (.ldc2_w 273, [], 31), (.aload_n 0, [], 0), (.getfield 275, [7, 26, 1], 0), (.lmul, [], 0), (.lload_n 1, [], 0), (.ladd, [], 0), (.putfield 275, [7, 26, 1], 0), (.return_, [], 0)])]
/-- MindReadersModel.sayCode(I)V -/
def zc_145 : List (Nat × List zE) := [(0, [(.iconst 0, [], 0), (.istore_n 2, [], 0), (.nop, [2, 1, 1, 1], 0)]),
  (2, [(.iload_n 2, [], 0), (.aload_n 0, [], 0), (.getfield 16, [7, 6, 2], 0), (.iload_n 1, [], 0), (.iaload, [], 0), (.if_icmp .ge 61, [70, 1, 1], 0), (.iconst 0, [], 0), (.istore_n 3, [], 0), (.nop, [14, 1, 1, 1, 1], 0)]),
  (14, [(.iload_n 3, [], 0), (.bipush 6, [], 0), (.if_icmp .ge 21, [38, 1, 1, 1], 0), (.aload_n 0, [], 0), (.aload_n 0, [], 0), (.iload_n 1, [], 0), (.iload_n 2, [], 0), (.iload_n 3, [], 0), (.invokevirtual 141, [89, 4, 1, 5, 7], 0), (.i2l, [], 0), (.invokevirtual 279, [144, 2, 0, 3, 7], 0), (.iinc 3 1, [], 0), (.goto (-21), [14, 1, 1, 1, 1], 0)]),
  (38, [(.aload_n 0, [], 0), (.aload_n 0, [], 0), (.iload_n 1, [], 0), (.iload_n 2, [], 0), (.bipush 10, [], 0), (.invokevirtual 141, [89, 4, 1, 5, 7], 0), (.i2l, [], 0), (.invokevirtual 279, [144, 2, 0, 3, 7], 0), (.aload_n 0, [], 0), (.aload_n 0, [], 0), (.iload_n 1, [], 0), (.iload_n 2, [], 0), (.bipush 30, [], 0), (.invokevirtual 141, [89, 4, 1, 5, 7], 0), (.i2l, [], 0), (.invokevirtual 279, [144, 2, 0, 3, 7], 0), (.iinc 2 1, [], 0), (.goto (-65), [2, 1, 1, 1], 0)]),
  (70, [(.aload_n 0, [], 0), (.aload_n 0, [], 0), (.iload_n 1, [], 0), (.invokevirtual 170, [97, 2, 1, 4, 7], 0), (.iconst (-1), [], 0), (.if_icmp .ne 7, [84, 1, 1], 0), (.lconst 1, [], 0), (.goto 4, [85, 1, 1], 0)]),
  (84, [(.lconst 0, [], 0), (.nop, [85, 1, 1], 0)]),
  (85, [(.invokevirtual 279, [144, 2, 0, 3, 7], 0), (.aload_n 0, [], 0), (.aload_n 0, [], 0), (.iload_n 1, [], 0), (.invokevirtual 186, [103, 2, 1, 10, 7], 0), (.i2l, [], 0), (.invokevirtual 279, [144, 2, 0, 3, 7], 0), (.aload_n 0, [], 0), (.aload_n 0, [], 0), (.iload_n 1, [], 0), (.invokevirtual 209, [111, 2, 1, 6, 7], 0), (.i2l, [], 0), (.invokevirtual 279, [144, 2, 0, 3, 7], 0), (.aload_n 0, [], 0), (.aload_n 0, [], 0), (.iload_n 1, [], 0), (.invokevirtual 230, [119, 2, 1, 7, 7], 0), (.i2l, [], 0), (.invokevirtual 279, [144, 2, 0, 3, 7], 0), (.aload_n 0, [], 0), (.aload_n 0, [], 0), (.iload_n 1, [], 0), (.invokevirtual 264, [138, 2, 1, 7, 7], 0), (.i2l, [], 0), (.invokevirtual 279, [144, 2, 0, 3, 7], 0), (.return_, [], 0)])]
/-- MindReadersModel.digest()J -/
def zc_146 : List (Nat × List zE) := [(0, [(.aload_n 0, [], 0), (.ldc2_w 283, [], 479), (.putfield 275, [7, 26, 1], 0), (.iconst 0, [], 0), (.istore_n 1, [], 0), (.nop, [9, 1, 1], 0)]),
  (9, [(.iload_n 1, [], 0), (.iconst 4, [], 0), (.aload_n 0, [], 0), (.getfield 92, [7, 8, 0], 0), (.imul, [], 0), (.if_icmp .ge 20, [36, 1], 0), (.aload_n 0, [], 0), (.aload_n 0, [], 0), (.getfield 22, [7, 9, 2], 0), (.iload_n 1, [], 0), (.iaload, [], 0), (.i2l, [], 0), (.invokevirtual 279, [144, 2, 0, 3, 7], 0), (.iinc 1 1, [], 0), (.goto (-24), [9, 1, 1], 0)]),
  (36, [(.iconst 0, [], 0), (.istore_n 1, [], 0), (.nop, [38, 1, 1], 0)]),
  (38, [(.iload_n 1, [], 0), (.aload_n 0, [], 0), (.getfield 104, [7, 10, 0], 0), (.if_icmp .ge 20, [63, 1], 0), (.aload_n 0, [], 0), (.aload_n 0, [], 0), (.getfield 25, [7, 11, 2], 0), (.iload_n 1, [], 0), (.iaload, [], 0), (.i2l, [], 0), (.invokevirtual 279, [144, 2, 0, 3, 7], 0), (.iinc 1 1, [], 0), (.goto (-22), [38, 1, 1], 0)]),
  (63, [(.iconst 0, [], 0), (.istore_n 1, [], 0), (.nop, [65, 1, 1], 0)]),
  (65, [(.iload_n 1, [], 0), (.aload_n 0, [], 0), (.getfield 87, [7, 5, 0], 0), (.if_icmp .ge 14, [84, 1], 0), (.aload_n 0, [], 0), (.iload_n 1, [], 0), (.invokevirtual 285, [145, 2, 0, 4, 7], 0), (.iinc 1 1, [], 0), (.goto (-16), [65, 1, 1], 0)]),
  (84, [(.iconst 0, [], 0), (.istore_n 1, [], 0), (.nop, [86, 1, 1], 0)]),
  (86, [(.iload_n 1, [], 0), (.aload_n 0, [], 0), (.getfield 242, [7, 18, 0], 0), (.if_icmp .ge 50, [141, 1], 0), (.iconst 0, [], 0), (.istore_n 2, [], 0), (.nop, [96, 1, 1, 1], 0)]),
  (96, [(.iload_n 2, [], 0), (.iconst 2, [], 0), (.aload_n 0, [], 0), (.getfield 40, [7, 19, 2], 0), (.bipush 10, [], 0), (.iload_n 1, [], 0), (.imul, [], 0), (.iconst 1, [], 0), (.iadd, [], 0), (.iaload, [], 0), (.iadd, [], 0), (.if_icmp .ge 25, [135, 1, 1], 0), (.aload_n 0, [], 0), (.aload_n 0, [], 0), (.getfield 40, [7, 19, 2], 0), (.bipush 10, [], 0), (.iload_n 1, [], 0), (.imul, [], 0), (.iload_n 2, [], 0), (.iadd, [], 0), (.iaload, [], 0), (.i2l, [], 0), (.invokevirtual 279, [144, 2, 0, 3, 7], 0), (.iinc 2 1, [], 0), (.goto (-36), [96, 1, 1, 1], 0)]),
  (135, [(.iinc 1 1, [], 0), (.goto (-52), [86, 1, 1], 0)]),
  (141, [(.aload_n 0, [], 0), (.aload_n 0, [], 0), (.invokevirtual 248, [127, 1, 1, 5, 7], 0), (.i2l, [], 0), (.invokevirtual 279, [144, 2, 0, 3, 7], 0), (.iconst 0, [], 0), (.istore_n 1, [], 0), (.nop, [152, 1, 1], 0)]),
  (152, [(.iload_n 1, [], 0), (.aload_n 0, [], 0), (.getfield 62, [7, 1, 0], 0), (.if_icmp .ge 20, [177, 1], 0), (.aload_n 0, [], 0), (.aload_n 0, [], 0), (.getfield 7, [7, 0, 2], 0), (.iload_n 1, [], 0), (.iaload, [], 0), (.i2l, [], 0), (.invokevirtual 279, [144, 2, 0, 3, 7], 0), (.iinc 1 1, [], 0), (.goto (-22), [152, 1, 1], 0)]),
  (177, [(.iconst 0, [], 0), (.istore_n 1, [], 0), (.nop, [179, 1, 1], 0)]),
  (179, [(.iload_n 1, [], 0), (.bipush 6, [], 0), (.if_icmp .ge 19, [201, 1], 0), (.aload_n 0, [], 0), (.aload_n 0, [], 0), (.iload_n 1, [], 0), (.invokevirtual 270, [142, 2, 1, 2, 7], 0), (.i2l, [], 0), (.invokevirtual 279, [144, 2, 0, 3, 7], 0), (.iinc 1 1, [], 0), (.goto (-19), [179, 1, 1], 0)]),
  (201, [(.aload_n 0, [], 0), (.getfield 275, [7, 26, 1], 0), (.lreturn, [], 0)])]
/-- MindReaders$Code.<init>()V -/
def zc_147 : List (Nat × List zE) := [(0, [(.aload_n 0, [], 0), (.invokespecial 3, [], 0), (.aload_n 0, [], 0), (.new 9, [4, 2, 2], 0), (.dup, [], 0), (.bipush 8, [], 0), (.iconst 5, [], 0), (.invokespecial 11, [185, 3, 0, 4, 4], 0), (.putfield 14, [0, 0, 2], 0), (.aload_n 0, [], 0), (.new 9, [4, 2, 2], 0), (.dup, [], 0), (.bipush 8, [], 0), (.bipush 10, [], 0), (.invokespecial 11, [185, 3, 0, 4, 4], 0), (.putfield 20, [0, 1, 2], 0), (.return_, [], 0)])]
/-- MindReaders$Code.size()I -/
def zc_148 : List (Nat × List zE) := [(0, [(.aload_n 0, [], 0), (.getfield 23, [0, 2, 0], 0), (.ireturn, [0], 0)])]
/-- MindReaders$Code.spoken(I)LMindReaders$Row; -/
def zc_149 : List (Nat × List zE) := [(0, [(.aload_n 0, [], 0), (.getfield 14, [0, 0, 2], 0), (.iload_n 1, [], 0), (.invokevirtual 27, [186, 2, 3, 3, 4], 0), (.areturn, [], 0)])]
/-- MindReaders$Code.plain(I)LMindReaders$Row; -/
def zc_150 : List (Nat × List zE) := [(0, [(.aload_n 0, [], 0), (.getfield 20, [0, 1, 2], 0), (.iload_n 1, [], 0), (.invokevirtual 27, [186, 2, 3, 3, 4], 0), (.areturn, [], 0)])]
/-- MindReaders$Code.readFrom(LMindReaders$Row;)V -/
def zc_151 : List (Nat × List zE) := [(0, [(.aload_n 0, [], 0), (.iconst 1, [], 0), (.putfield 23, [0, 2, 0], 0), (.iconst 0, [], 0), (.istore_n 2, [], 0), (.nop, [7, 1, 1, 1], 0)]),
  (7, [(.iload_n 2, [], 0), (.aload_n 1, [], 0), (.invokevirtual 31, [171, 1, 1, 1, 3], 0), (.if_icmp .ge 50, [62], 0), (.aload_n 1, [], 0), (.iload_n 2, [], 0), (.invokevirtual 36, [172, 2, 1, 2, 3], 0), (.invokestatic 40, [42, 1, 1, 1], 0), (.istore_n 3, [], 0), (.iload_n 3, [], 0), (.iconst (-1), [], 0), (.if_icmp .ne 16, [42, 1, 1, 1, 1], 0), (.aload_n 0, [], 0), (.dup, [], 0), (.getfield 23, [0, 2, 0], 0), (.iconst 1, [], 0), (.iadd, [], 0), (.putfield 23, [0, 2, 0], 0), (.goto 17, [56, 1, 1, 1], 0)]),
  (42, [(.aload_n 0, [], 0), (.aload_n 0, [], 0), (.getfield 23, [0, 2, 0], 0), (.iconst 1, [], 0), (.isub, [], 0), (.invokevirtual 43, [149, 2, 3, 2, 0], 0), (.iload_n 3, [], 0), (.invokevirtual 45, [174, 2, 0, 2, 3], 0), (.nop, [56, 1, 1, 1], 0)]),
  (56, [(.iinc 2 1, [], 0), (.goto (-52), [7, 1, 1, 1], 0)]),
  (62, [(.return_, [], 0)])]
/-- MindReaders$Code.makePlain(LMindReaders$Signals;)V -/
def zc_152 : List (Nat × List zE) := [(0, [(.iconst 0, [], 0), (.istore_n 2, [], 0), (.nop, [2, 1, 1, 1], 0)]),
  (2, [(.iload_n 2, [], 0), (.aload_n 0, [], 0), (.getfield 23, [0, 2, 0], 0), (.if_icmp .ge 24, [31], 0), (.aload_n 1, [], 0), (.aload_n 0, [], 0), (.iload_n 2, [], 0), (.invokevirtual 43, [149, 2, 3, 2, 0], 0), (.iconst 0, [], 0), (.aload_n 0, [], 0), (.iload_n 2, [], 0), (.invokevirtual 49, [150, 2, 3, 2, 0], 0), (.invokevirtual 51, [198, 4, 0, 7, 5], 0), (.iinc 2 1, [], 0), (.goto (-26), [2, 1, 1, 1], 0)]),
  (31, [(.return_, [], 0)])]
/-- MindReaders$Code.meaningOf(LMindReaders$Row;)I -/
def zc_153 : List (Nat × List zE) := [(0, [(.iconst 0, [], 0), (.istore_n 2, [], 0), (.nop, [2, 1, 1, 1], 0)]),
  (2, [(.iload_n 2, [], 0), (.aload_n 0, [], 0), (.getfield 23, [0, 2, 0], 0), (.if_icmp .ge 23, [30], 0), (.aload_n 0, [], 0), (.iload_n 2, [], 0), (.invokevirtual 49, [150, 2, 3, 2, 0], 0), (.aload_n 1, [], 0), (.invokevirtual 57, [178, 2, 1, 2, 3], 0), (.ifCond .eq 5, [24, 1, 1, 1], 0), (.iload_n 2, [], 0), (.ireturn, [0], 0)]),
  (24, [(.iinc 2 1, [], 0), (.goto (-25), [2, 1, 1, 1], 0)]),
  (30, [(.iconst (-1), [], 0), (.ireturn, [0], 0)])]
/-- MindReaders$Code.firstAlike()I -/
def zc_154 : List (Nat × List zE) := [(0, [(.iconst 0, [], 0), (.istore_n 1, [], 0), (.nop, [2, 1, 1], 0)]),
  (2, [(.iload_n 1, [], 0), (.aload_n 0, [], 0), (.getfield 23, [0, 2, 0], 0), (.if_icmp .ge 50, [57], 0), (.iload_n 1, [], 0), (.iconst 1, [], 0), (.iadd, [], 0), (.istore_n 2, [], 0), (.nop, [14, 1, 1, 1], 0)]),
  (14, [(.iload_n 2, [], 0), (.aload_n 0, [], 0), (.getfield 23, [0, 2, 0], 0), (.if_icmp .ge 32, [51, 1, 1], 0), (.aload_n 0, [], 0), (.iload_n 1, [], 0), (.invokevirtual 49, [150, 2, 3, 2, 0], 0), (.aload_n 0, [], 0), (.iload_n 2, [], 0), (.invokevirtual 49, [150, 2, 3, 2, 0], 0), (.invokevirtual 57, [178, 2, 1, 2, 3], 0), (.ifCond .eq 10, [45, 1, 1, 1], 0), (.iload_n 1, [], 0), (.bipush 8, [], 0), (.imul, [], 0), (.iload_n 2, [], 0), (.iadd, [], 0), (.ireturn, [0], 0)]),
  (45, [(.iinc 2 1, [], 0), (.goto (-34), [14, 1, 1, 1], 0)]),
  (51, [(.iinc 1 1, [], 0), (.goto (-52), [2, 1, 1], 0)]),
  (57, [(.iconst (-1), [], 0), (.ireturn, [0], 0)])]
/-- MindReaders$Code.firstStart()I -/
def zc_155 : List (Nat × List zE) := [(0, [(.iconst 0, [], 0), (.istore_n 1, [], 0), (.nop, [2, 1, 1], 0)]),
  (2, [(.iload_n 1, [], 0), (.aload_n 0, [], 0), (.getfield 23, [0, 2, 0], 0), (.if_icmp .ge 67, [74], 0), (.iconst 0, [], 0), (.istore_n 2, [], 0), (.nop, [12, 1, 1, 1], 0)]),
  (12, [(.iload_n 2, [], 0), (.aload_n 0, [], 0), (.getfield 23, [0, 2, 0], 0), (.if_icmp .ge 51, [68, 1, 1], 0), (.aload_n 0, [], 0), (.iload_n 1, [], 0), (.invokevirtual 49, [150, 2, 3, 2, 0], 0), (.invokevirtual 31, [171, 1, 1, 1, 3], 0), (.aload_n 0, [], 0), (.iload_n 2, [], 0), (.invokevirtual 49, [150, 2, 3, 2, 0], 0), (.invokevirtual 31, [171, 1, 1, 1, 3], 0), (.if_icmp .ge 26, [62, 1, 1, 1], 0), (.aload_n 0, [], 0), (.iload_n 1, [], 0), (.invokevirtual 49, [150, 2, 3, 2, 0], 0), (.aload_n 0, [], 0), (.iload_n 2, [], 0), (.invokevirtual 49, [150, 2, 3, 2, 0], 0), (.invokevirtual 61, [179, 2, 1, 3, 3], 0), (.ifCond .eq 10, [62, 1, 1, 1], 0), (.iload_n 1, [], 0), (.bipush 8, [], 0), (.imul, [], 0), (.iload_n 2, [], 0), (.iadd, [], 0), (.ireturn, [0], 0)]),
  (62, [(.iinc 2 1, [], 0), (.goto (-53), [12, 1, 1, 1], 0)]),
  (68, [(.iinc 1 1, [], 0), (.goto (-69), [2, 1, 1], 0)]),
  (74, [(.iconst (-1), [], 0), (.ireturn, [0], 0)])]
/-- MindReaders$Code.leastApart()I -/
def zc_156 : List (Nat × List zE) := [(0, [(.iconst (-1), [], 0), (.istore_n 1, [], 0), (.iconst 0, [], 0), (.istore_n 2, [], 0), (.nop, [4, 1, 1, 1], 0)]),
  (4, [(.iload_n 2, [], 0), (.aload_n 0, [], 0), (.getfield 23, [0, 2, 0], 0), (.if_icmp .ge 72, [81, 0, 1], 0), (.aload_n 0, [], 0), (.iload_n 2, [], 0), (.invokevirtual 49, [150, 2, 3, 2, 0], 0), (.invokevirtual 31, [171, 1, 1, 1, 3], 0), (.aload_n 0, [], 0), (.iconst 0, [], 0), (.invokevirtual 49, [150, 2, 3, 2, 0], 0), (.invokevirtual 31, [171, 1, 1, 1, 3], 0), (.if_icmp .eq 5, [33, 1, 1, 1], 0), (.iconst (-1), [], 0), (.ireturn, [0], 0)]),
  (33, [(.iconst 0, [], 0), (.istore_n 3, [], 0), (.nop, [35, 1, 1, 1, 1], 0)]),
  (35, [(.iload_n 3, [], 0), (.iload_n 2, [], 0), (.if_icmp .ge 38, [75, 1, 1, 1], 0), (.aload_n 0, [], 0), (.iload_n 2, [], 0), (.invokevirtual 49, [150, 2, 3, 2, 0], 0), (.aload_n 0, [], 0), (.iload_n 3, [], 0), (.invokevirtual 49, [150, 2, 3, 2, 0], 0), (.invokevirtual 64, [180, 2, 1, 4, 3], 0), (.istore 4, [], 0), (.iload_n 1, [], 0), (.iconst (-1), [], 0), (.if_icmp .eq 9, [66, 1, 0, 1, 1, 1], 0), (.iload 4, [], 0), (.iload_n 1, [], 0), (.if_icmp .ge 6, [69, 1, 1, 1, 1], 0), (.nop, [66, 1, 0, 1, 1, 1], 0)]),
  (66, [(.iload 4, [], 0), (.istore_n 1, [], 0), (.nop, [69, 1, 1, 1, 1], 0)]),
  (69, [(.iinc 3 1, [], 0), (.goto (-37), [35, 1, 1, 1, 1], 0)]),
  (75, [(.iinc 2 1, [], 0), (.goto (-74), [4, 1, 1, 1], 0)]),
  (81, [(.iload_n 1, [], 0), (.ireturn, [0], 0)])]
/-- MindReaders$Code.nearestTo(LMindReaders$Row;)I -/
def zc_157 : List (Nat × List zE) := [(0, [(.iconst (-1), [], 0), (.istore_n 2, [], 0), (.iconst 0, [], 0), (.istore_n 3, [], 0), (.iconst 0, [], 0), (.istore 4, [], 0), (.nop, [7, 1, 1, 1, 1, 1], 0)]),
  (7, [(.iload 4, [], 0), (.aload_n 0, [], 0), (.getfield 23, [0, 2, 0], 0), (.if_icmp .ge 57, [70, 0, 0, 1], 0), (.aload_n 0, [], 0), (.iload 4, [], 0), (.invokevirtual 49, [150, 2, 3, 2, 0], 0), (.invokevirtual 31, [171, 1, 1, 1, 3], 0), (.aload_n 1, [], 0), (.invokevirtual 31, [171, 1, 1, 1, 3], 0), (.if_icmp .eq 6, [35, 1, 1, 1, 1, 1], 0), (.goto 32, [64, 1, 1, 1, 1, 1], 0)]),
  (35, [(.aload_n 0, [], 0), (.iload 4, [], 0), (.invokevirtual 49, [150, 2, 3, 2, 0], 0), (.aload_n 1, [], 0), (.invokevirtual 64, [180, 2, 1, 4, 3], 0), (.istore 5, [], 0), (.iload_n 2, [], 0), (.iconst (-1), [], 0), (.if_icmp .eq 9, [58, 1, 1, 0, 0, 1, 1], 0), (.iload 5, [], 0), (.iload_n 3, [], 0), (.if_icmp .ge 9, [64, 1, 1, 1, 1, 1], 0), (.nop, [58, 1, 1, 0, 0, 1, 1], 0)]),
  (58, [(.iload 4, [], 0), (.istore_n 2, [], 0), (.iload 5, [], 0), (.istore_n 3, [], 0), (.nop, [64, 1, 1, 1, 1, 1], 0)]),
  (64, [(.iinc 4 1, [], 0), (.goto (-60), [7, 1, 1, 1, 1, 1], 0)]),
  (70, [(.iload_n 2, [], 0), (.ireturn, [0], 0)])]
/-- MindReaders$Notes.<init>()V -/
def zc_158 : List (Nat × List zE) := [(0, [(.aload_n 0, [], 0), (.invokespecial 3, [], 0), (.aload_n 0, [], 0), (.new 9, [3, 2, 0], 0), (.dup, [], 0), (.bipush 10, [], 0), (.invokespecial 11, [170, 2, 0, 2, 3], 0), (.putfield 14, [1, 0, 2], 0), (.aload_n 0, [], 0), (.new 20, [4, 2, 2], 0), (.dup, [], 0), (.bipush 10, [], 0), (.bipush 8, [], 0), (.invokespecial 22, [185, 3, 0, 4, 4], 0), (.putfield 25, [1, 1, 2], 0), (.return_, [], 0)])]
/-- MindReaders$Notes.size()I -/
def zc_159 : List (Nat × List zE) := [(0, [(.aload_n 0, [], 0), (.getfield 14, [1, 0, 2], 0), (.invokevirtual 29, [171, 1, 1, 1, 3], 0), (.ireturn, [0], 0)])]
/-- MindReaders$Notes.thingOf(I)I -/
def zc_160 : List (Nat × List zE) := [(0, [(.aload_n 0, [], 0), (.getfield 14, [1, 0, 2], 0), (.iload_n 1, [], 0), (.invokevirtual 33, [172, 2, 1, 2, 3], 0), (.ireturn, [0], 0)])]
/-- MindReaders$Notes.rowOf(I)LMindReaders$Row; -/
def zc_161 : List (Nat × List zE) := [(0, [(.aload_n 0, [], 0), (.getfield 25, [1, 1, 2], 0), (.iload_n 1, [], 0), (.invokevirtual 37, [186, 2, 3, 3, 4], 0), (.areturn, [], 0)])]
/-- MindReaders$Notes.add(ILMindReaders$Row;)V -/
def zc_162 : List (Nat × List zE) := [(0, [(.aload_n 0, [], 0), (.getfield 25, [1, 1, 2], 0), (.aload_n 0, [], 0), (.getfield 14, [1, 0, 2], 0), (.invokevirtual 29, [171, 1, 1, 1, 3], 0), (.invokevirtual 37, [186, 2, 3, 3, 4], 0), (.aload_n 2, [], 0), (.invokevirtual 41, [177, 2, 0, 3, 3], 0), (.aload_n 0, [], 0), (.getfield 14, [1, 0, 2], 0), (.iload_n 1, [], 0), (.invokevirtual 45, [174, 2, 0, 2, 3], 0), (.return_, [], 0)])]
/-- MindReaders$Notes.wipe()V -/
def zc_163 : List (Nat × List zE) := [(0, [(.aload_n 0, [], 0), (.getfield 14, [1, 0, 2], 0), (.invokevirtual 48, [176, 1, 0, 1, 3], 0), (.return_, [], 0)])]
/-- MindReaders$Notes.copyOf(LMindReaders$Notes;)V -/
def zc_164 : List (Nat × List zE) := [(0, [(.aload_n 0, [], 0), (.invokevirtual 51, [163, 1, 0, 1, 1], 0), (.iconst 0, [], 0), (.istore_n 2, [], 0), (.nop, [6, 1, 1, 1], 0)]),
  (6, [(.iload_n 2, [], 0), (.aload_n 1, [], 0), (.invokevirtual 52, [159, 1, 1, 1, 1], 0), (.if_icmp .ge 23, [34], 0), (.aload_n 0, [], 0), (.aload_n 1, [], 0), (.iload_n 2, [], 0), (.invokevirtual 53, [160, 2, 1, 2, 1], 0), (.aload_n 1, [], 0), (.iload_n 2, [], 0), (.invokevirtual 56, [161, 2, 3, 2, 1], 0), (.invokevirtual 59, [162, 3, 0, 3, 1], 0), (.iinc 2 1, [], 0), (.goto (-25), [6, 1, 1, 1], 0)]),
  (34, [(.return_, [], 0)])]
/-- MindReaders$Readings.<init>()V -/
def zc_165 : List (Nat × List zE) := [(0, [(.aload_n 0, [], 0), (.invokespecial 3, [], 0), (.aload_n 0, [], 0), (.new 9, [3, 2, 0], 0), (.dup, [], 0), (.bipush 80, [], 0), (.invokespecial 13, [170, 2, 0, 2, 3], 0), (.putfield 16, [2, 0, 2], 0), (.return_, [], 0)])]
/-- MindReaders$Readings.leastTwice(LMindReaders$Code;)I -/
def zc_166 : List (Nat × List zE) := [(0, [(.aload_n 0, [], 0), (.ldc 20, [], 1000000), (.putfield 21, [2, 1, 0], 0), (.aload_n 0, [], 0), (.getfield 16, [2, 0, 2], 0), (.invokevirtual 25, [176, 1, 0, 1, 3], 0), (.iconst 0, [], 0), (.istore_n 2, [], 0), (.nop, [15, 1, 1, 1], 0)]),
  (15, [(.iload_n 2, [], 0), (.bipush 80, [], 0), (.if_icmp .ge 18, [36, 1, 1], 0), (.aload_n 0, [], 0), (.getfield 16, [2, 0, 2], 0), (.ldc 20, [], 1000000), (.invokevirtual 28, [174, 2, 0, 2, 3], 0), (.iinc 2 1, [], 0), (.goto (-18), [15, 1, 1, 1], 0)]),
  (36, [(.iconst 0, [], 0), (.istore_n 2, [], 0), (.nop, [38, 1, 1, 1], 0)]),
  (38, [(.iload_n 2, [], 0), (.aload_n 1, [], 0), (.invokevirtual 31, [148, 1, 1, 1, 0], 0), (.if_icmp .ge 44, [87, 1, 1], 0), (.iload_n 2, [], 0), (.iconst 1, [], 0), (.iadd, [], 0), (.istore_n 3, [], 0), (.nop, [50, 1, 1, 1, 1], 0)]),
  (50, [(.iload_n 3, [], 0), (.aload_n 1, [], 0), (.invokevirtual 31, [148, 1, 1, 1, 0], 0), (.if_icmp .ge 26, [81, 1, 1, 1], 0), (.aload_n 0, [], 0), (.aload_n 1, [], 0), (.iload_n 2, [], 0), (.iconst 0, [], 0), (.iload_n 3, [], 0), (.aload_n 1, [], 0), (.iload_n 2, [], 0), (.invokevirtual 37, [150, 2, 3, 2, 0], 0), (.invokevirtual 41, [171, 1, 1, 1, 3], 0), (.invokevirtual 42, [168, 6, 1, 10, 2], 0), (.pop, [], 0), (.iinc 3 1, [], 0), (.goto (-28), [50, 1, 1, 1, 1], 0)]),
  (81, [(.iinc 2 1, [], 0), (.goto (-46), [38, 1, 1, 1], 0)]),
  (87, [(.iconst 1, [], 0), (.istore_n 2, [], 0), (.iconst 0, [], 0), (.istore_n 3, [], 0), (.nop, [91, 1, 1, 1, 1], 0)]),
  (91, [(.iload_n 3, [], 0), (.bipush 80, [], 0), (.if_icmp .gt 19, [113, 1], 0), (.iload_n 2, [], 0), (.ifCond .eq 15, [113, 1], 0), (.aload_n 0, [], 0), (.aload_n 1, [], 0), (.invokevirtual 46, [167, 2, 1, 6, 2], 0), (.istore_n 2, [], 0), (.iinc 3 1, [], 0), (.goto (-19), [91, 1, 1, 1, 1], 0)]),
  (113, [(.aload_n 0, [], 0), (.getfield 21, [2, 1, 0], 0), (.ldc 20, [], 1000000), (.if_icmp .ge 10, [129], 0), (.aload_n 0, [], 0), (.getfield 21, [2, 1, 0], 0), (.goto 4, [130], 0)]),
  (129, [(.iconst (-1), [], 0), (.nop, [130], 0)]),
  (130, [(.ireturn, [0], 0)])]
/-- MindReaders$Readings.goOn(LMindReaders$Code;)Z -/
def zc_167 : List (Nat × List zE) := [(0, [(.iconst 0, [], 0), (.istore_n 2, [], 0), (.iconst 0, [], 0), (.istore_n 3, [], 0), (.nop, [4, 1, 1, 1, 1], 0)]),
  (4, [(.iload_n 3, [], 0), (.bipush 80, [], 0), (.if_icmp .ge 66, [73, 0, 0, 1], 0), (.aload_n 0, [], 0), (.getfield 16, [2, 0, 2], 0), (.iload_n 3, [], 0), (.invokevirtual 50, [172, 2, 1, 2, 3], 0), (.istore 4, [], 0), (.iconst 0, [], 0), (.istore 5, [], 0), (.nop, [23, 1, 1, 1, 1, 1, 1], 0)]),
  (23, [(.iload 5, [], 0), (.aload_n 1, [], 0), (.invokevirtual 31, [148, 1, 1, 1, 0], 0), (.if_icmp .ge 38, [67, 1, 1, 1, 1], 0), (.iload 4, [], 0), (.ldc 20, [], 1000000), (.if_icmp .ge 31, [67, 1, 1, 1, 1], 0), (.aload_n 0, [], 0), (.aload_n 1, [], 0), (.iload_n 3, [], 0), (.bipush 10, [], 0), (.idiv, [], 0), (.iload_n 3, [], 0), (.bipush 10, [], 0), (.irem, [], 0), (.iload 5, [], 0), (.iload 4, [], 0), (.invokevirtual 42, [168, 6, 1, 10, 2], 0), (.ifCond .eq 5, [61, 1, 1, 1, 1, 1, 1], 0), (.iconst 1, [], 0), (.istore_n 2, [], 0), (.nop, [61, 1, 1, 1, 1, 1, 1], 0)]),
  (61, [(.iinc 5 1, [], 0), (.goto (-41), [23, 1, 1, 1, 1, 1, 1], 0)]),
  (67, [(.iinc 3 1, [], 0), (.goto (-66), [4, 1, 1, 1, 1], 0)]),
  (73, [(.iload_n 2, [], 0), (.ireturn, [1], 0)])]
/-- MindReaders$Readings.meet(LMindReaders$Code;IIII)Z -/
def zc_168 : List (Nat × List zE) := [(0, [(.aload_n 1, [], 0), (.iload_n 2, [], 0), (.invokevirtual 37, [150, 2, 3, 2, 0], 0), (.astore 6, [], 0), (.aload_n 1, [], 0), (.iload 4, [], 0), (.invokevirtual 37, [150, 2, 3, 2, 0], 0), (.astore 7, [], 0), (.aload 6, [], 0), (.invokevirtual 41, [171, 1, 1, 1, 3], 0), (.iload_n 3, [], 0), (.isub, [], 0), (.istore 8, [], 0), (.iload 8, [], 0), (.ifCond .le 11, [37], 0), (.aload 7, [], 0), (.invokevirtual 41, [171, 1, 1, 1, 3], 0), (.ifCond .ne 5, [39, 1, 0, 1, 1, 1, 1, 1, 1, 1], 0), (.nop, [37], 0)]),
  (37, [(.iconst 0, [], 0), (.ireturn, [1], 0)]),
  (39, [(.iconst 0, [], 0), (.istore 9, [], 0), (.nop, [42, 1, 0, 1, 1, 1, 1, 1, 1, 1, 1], 0)]),
  (42, [(.iload 9, [], 0), (.iload 8, [], 0), (.if_icmp .ge 40, [86, 1, 0, 1, 1, 1, 1, 0, 1, 1], 0), (.iload 9, [], 0), (.aload 7, [], 0), (.invokevirtual 41, [171, 1, 1, 1, 3], 0), (.if_icmp .ge 30, [86, 1, 0, 1, 1, 1, 1, 0, 1, 1], 0), (.aload 6, [], 0), (.iload_n 3, [], 0), (.iload 9, [], 0), (.iadd, [], 0), (.invokevirtual 50, [172, 2, 1, 2, 3], 0), (.aload 7, [], 0), (.iload 9, [], 0), (.invokevirtual 50, [172, 2, 1, 2, 3], 0), (.if_icmp .eq 5, [80, 1, 0, 1, 1, 1, 1, 1, 1, 1, 1], 0), (.iconst 0, [], 0), (.ireturn, [1], 0)]),
  (80, [(.iinc 9 1, [], 0), (.goto (-41), [42, 1, 0, 1, 1, 1, 1, 1, 1, 1, 1], 0)]),
  (86, [(.iload 8, [], 0), (.aload 7, [], 0), (.invokevirtual 41, [171, 1, 1, 1, 3], 0), (.if_icmp .ne 18, [111, 1, 0, 1, 1, 1, 1, 0, 1, 1], 0), (.aload_n 0, [], 0), (.aload_n 0, [], 0), (.getfield 21, [2, 1, 0], 0), (.iload 5, [], 0), (.invokestatic 54, [201, 2, 1, 2], 0), (.putfield 21, [2, 1, 0], 0), (.iconst 0, [], 0), (.ireturn, [1], 0)]),
  (111, [(.iload 8, [], 0), (.aload 7, [], 0), (.invokevirtual 41, [171, 1, 1, 1, 3], 0), (.if_icmp .le 18, [136, 1, 0, 0, 0, 1, 1, 0, 1, 1], 0), (.aload_n 0, [], 0), (.iload_n 2, [], 0), (.iload_n 3, [], 0), (.aload 7, [], 0), (.invokevirtual 41, [171, 1, 1, 1, 3], 0), (.iadd, [], 0), (.iload 5, [], 0), (.invokevirtual 60, [169, 4, 1, 5, 2], 0), (.ireturn, [1], 0)]),
  (136, [(.aload_n 0, [], 0), (.iload 4, [], 0), (.iload 8, [], 0), (.iload 5, [], 0), (.aload 7, [], 0), (.invokevirtual 41, [171, 1, 1, 1, 3], 0), (.iadd, [], 0), (.iload 8, [], 0), (.isub, [], 0), (.invokevirtual 60, [169, 4, 1, 5, 2], 0), (.ireturn, [1], 0)])]
/-- MindReaders$Readings.comeTo(III)Z -/
def zc_169 : List (Nat × List zE) := [(0, [(.iload_n 1, [], 0), (.bipush 10, [], 0), (.imul, [], 0), (.iload_n 2, [], 0), (.iadd, [], 0), (.istore 4, [], 0), (.iload_n 3, [], 0), (.aload_n 0, [], 0), (.getfield 16, [2, 0, 2], 0), (.iload 4, [], 0), (.invokevirtual 50, [172, 2, 1, 2, 3], 0), (.if_icmp .lt 5, [23, 1, 0, 0, 1, 1], 0), (.iconst 0, [], 0), (.ireturn, [1], 0)]),
  (23, [(.aload_n 0, [], 0), (.getfield 16, [2, 0, 2], 0), (.iload 4, [], 0), (.iload_n 3, [], 0), (.invokevirtual 64, [173, 3, 0, 3, 3], 0), (.iconst 1, [], 0), (.ireturn, [1], 0)])]
/-- MindReaders$Row.<init>(I)V -/
def zc_170 : List (Nat × List zE) := [(0, [(.aload_n 0, [], 0), (.invokespecial 3, [], 0), (.aload_n 0, [], 0), (.iload_n 1, [], 0), (.iconst 0, [], 0), (.invokestatic 9, [200, 2, 1, 2], 0), (.newarray .int, [0], 0), (.putfield 15, [3, 0, 2], 0), (.return_, [], 0)])]
/-- MindReaders$Row.size()I -/
def zc_171 : List (Nat × List zE) := [(0, [(.aload_n 0, [], 0), (.getfield 21, [3, 1, 0], 0), (.ireturn, [0], 0)])]
/-- MindReaders$Row.at(I)I -/
def zc_172 : List (Nat × List zE) := [(0, [(.iload_n 1, [], 0), (.ifCond .lt 29, [30], 0), (.iload_n 1, [], 0), (.aload_n 0, [], 0), (.getfield 21, [3, 1, 0], 0), (.if_icmp .ge 21, [30], 0), (.iload_n 1, [], 0), (.aload_n 0, [], 0), (.getfield 15, [3, 0, 2], 0), (.arraylength, [], 0), (.if_icmp .ge 12, [30], 0), (.aload_n 0, [], 0), (.getfield 15, [3, 0, 2], 0), (.iload_n 1, [], 0), (.iaload, [], 0), (.goto 4, [31], 0)]),
  (30, [(.iconst (-1), [], 0), (.nop, [31], 0)]),
  (31, [(.ireturn, [0], 0)])]
/-- MindReaders$Row.set(II)V -/
def zc_173 : List (Nat × List zE) := [(0, [(.iload_n 1, [], 0), (.ifCond .lt 27, [28], 0), (.iload_n 1, [], 0), (.aload_n 0, [], 0), (.getfield 21, [3, 1, 0], 0), (.if_icmp .ge 19, [28], 0), (.iload_n 1, [], 0), (.aload_n 0, [], 0), (.getfield 15, [3, 0, 2], 0), (.arraylength, [], 0), (.if_icmp .ge 10, [28], 0), (.aload_n 0, [], 0), (.getfield 15, [3, 0, 2], 0), (.iload_n 1, [], 0), (.iload_n 2, [], 0), (.iastore, [], 0), (.nop, [28], 0)]),
  (28, [(.return_, [], 0)])]
/-- MindReaders$Row.add(I)V -/
def zc_174 : List (Nat × List zE) := [(0, [(.aload_n 0, [], 0), (.getfield 21, [3, 1, 0], 0), (.ifCond .lt 35, [39], 0), (.aload_n 0, [], 0), (.getfield 21, [3, 1, 0], 0), (.aload_n 0, [], 0), (.getfield 15, [3, 0, 2], 0), (.arraylength, [], 0), (.if_icmp .ge 23, [39], 0), (.aload_n 0, [], 0), (.getfield 15, [3, 0, 2], 0), (.aload_n 0, [], 0), (.getfield 21, [3, 1, 0], 0), (.iload_n 1, [], 0), (.iastore, [], 0), (.aload_n 0, [], 0), (.dup, [], 0), (.getfield 21, [3, 1, 0], 0), (.iconst 1, [], 0), (.iadd, [], 0), (.putfield 21, [3, 1, 0], 0), (.nop, [39], 0)]),
  (39, [(.return_, [], 0)])]
/-- MindReaders$Row.dropLast()V -/
def zc_175 : List (Nat × List zE) := [(0, [(.aload_n 0, [], 0), (.getfield 21, [3, 1, 0], 0), (.ifCond .le 13, [17], 0), (.aload_n 0, [], 0), (.dup, [], 0), (.getfield 21, [3, 1, 0], 0), (.iconst 1, [], 0), (.isub, [], 0), (.putfield 21, [3, 1, 0], 0), (.nop, [17], 0)]),
  (17, [(.return_, [], 0)])]
/-- MindReaders$Row.wipe()V -/
def zc_176 : List (Nat × List zE) := [(0, [(.aload_n 0, [], 0), (.iconst 0, [], 0), (.putfield 21, [3, 1, 0], 0), (.return_, [], 0)])]
/-- MindReaders$Row.copyOf(LMindReaders$Row;)V -/
def zc_177 : List (Nat × List zE) := [(0, [(.aload_n 0, [], 0), (.invokevirtual 25, [176, 1, 0, 1, 3], 0), (.iconst 0, [], 0), (.istore_n 2, [], 0), (.nop, [6, 1, 1, 1], 0)]),
  (6, [(.iload_n 2, [], 0), (.aload_n 1, [], 0), (.invokevirtual 28, [171, 1, 1, 1, 3], 0), (.if_icmp .ge 18, [29], 0), (.aload_n 0, [], 0), (.aload_n 1, [], 0), (.iload_n 2, [], 0), (.invokevirtual 31, [172, 2, 1, 2, 3], 0), (.invokevirtual 35, [174, 2, 0, 2, 3], 0), (.iinc 2 1, [], 0), (.goto (-20), [6, 1, 1, 1], 0)]),
  (29, [(.return_, [], 0)])]
/-- MindReaders$Row.isLike(LMindReaders$Row;)Z -/
def zc_178 : List (Nat × List zE) := [(0, [(.aload_n 0, [], 0), (.getfield 21, [3, 1, 0], 0), (.aload_n 1, [], 0), (.invokevirtual 28, [171, 1, 1, 1, 3], 0), (.if_icmp .ne 15, [23], 0), (.aload_n 0, [], 0), (.aload_n 1, [], 0), (.invokevirtual 39, [179, 2, 1, 3, 3], 0), (.ifCond .eq 7, [23], 0), (.iconst 1, [], 0), (.goto 4, [24], 0)]),
  (23, [(.iconst 0, [], 0), (.nop, [24], 0)]),
  (24, [(.ireturn, [1], 0)])]
/-- MindReaders$Row.isStartOf(LMindReaders$Row;)Z -/
def zc_179 : List (Nat × List zE) := [(0, [(.iconst 0, [], 0), (.istore_n 2, [], 0), (.nop, [2, 1, 1, 1], 0)]),
  (2, [(.iload_n 2, [], 0), (.aload_n 0, [], 0), (.getfield 21, [3, 1, 0], 0), (.if_icmp .ge 24, [31], 0), (.aload_n 0, [], 0), (.iload_n 2, [], 0), (.invokevirtual 31, [172, 2, 1, 2, 3], 0), (.aload_n 1, [], 0), (.iload_n 2, [], 0), (.invokevirtual 31, [172, 2, 1, 2, 3], 0), (.if_icmp .eq 5, [25, 1, 1, 1], 0), (.iconst 0, [], 0), (.ireturn, [1], 0)]),
  (25, [(.iinc 2 1, [], 0), (.goto (-26), [2, 1, 1, 1], 0)]),
  (31, [(.iconst 1, [], 0), (.ireturn, [1], 0)])]
/-- MindReaders$Row.placesApart(LMindReaders$Row;)I -/
def zc_180 : List (Nat × List zE) := [(0, [(.iconst 0, [], 0), (.istore_n 2, [], 0), (.iconst 0, [], 0), (.istore_n 3, [], 0), (.nop, [4, 1, 1, 1, 1], 0)]),
  (4, [(.iload_n 3, [], 0), (.aload_n 0, [], 0), (.getfield 21, [3, 1, 0], 0), (.if_icmp .ge 25, [34, 0, 0, 1], 0), (.aload_n 0, [], 0), (.iload_n 3, [], 0), (.invokevirtual 31, [172, 2, 1, 2, 3], 0), (.aload_n 1, [], 0), (.iload_n 3, [], 0), (.invokevirtual 31, [172, 2, 1, 2, 3], 0), (.if_icmp .eq 6, [28, 1, 1, 1, 1], 0), (.iinc 2 1, [], 0), (.nop, [28, 1, 1, 1, 1], 0)]),
  (28, [(.iinc 3 1, [], 0), (.goto (-27), [4, 1, 1, 1, 1], 0)]),
  (34, [(.iload_n 2, [], 0), (.ireturn, [0], 0)])]
/-- MindReaders$Row.isBelow(I)Z -/
def zc_181 : List (Nat × List zE) := [(0, [(.iconst 0, [], 0), (.istore_n 2, [], 0), (.nop, [2, 1, 1, 1], 0)]),
  (2, [(.iload_n 2, [], 0), (.aload_n 0, [], 0), (.getfield 21, [3, 1, 0], 0), (.if_icmp .ge 20, [27], 0), (.aload_n 0, [], 0), (.iload_n 2, [], 0), (.invokevirtual 31, [172, 2, 1, 2, 3], 0), (.iload_n 1, [], 0), (.if_icmp .lt 5, [21, 1, 1, 1], 0), (.iconst 0, [], 0), (.ireturn, [1], 0)]),
  (21, [(.iinc 2 1, [], 0), (.goto (-22), [2, 1, 1, 1], 0)]),
  (27, [(.iconst 1, [], 0), (.ireturn, [1], 0)])]
/-- MindReaders$Row.sumOf(I)I -/
def zc_182 : List (Nat × List zE) := [(0, [(.iconst 0, [], 0), (.istore_n 2, [], 0), (.iconst 0, [], 0), (.istore_n 3, [], 0), (.nop, [4, 1, 1, 1, 1], 0)]),
  (4, [(.iload_n 3, [], 0), (.iload_n 1, [], 0), (.if_icmp .ge 25, [31, 0, 0, 1], 0), (.iload_n 3, [], 0), (.aload_n 0, [], 0), (.getfield 21, [3, 1, 0], 0), (.if_icmp .ge 17, [31, 0, 0, 1], 0), (.iload_n 2, [], 0), (.aload_n 0, [], 0), (.iload_n 3, [], 0), (.invokevirtual 31, [172, 2, 1, 2, 3], 0), (.iadd, [], 0), (.istore_n 2, [], 0), (.iinc 3 1, [], 0), (.goto (-24), [4, 1, 1, 1, 1], 0)]),
  (31, [(.iload_n 2, [], 0), (.ireturn, [0], 0)])]
/-- MindReaders$Row.takeLeast()I -/
def zc_183 : List (Nat × List zE) := [(0, [(.aload_n 0, [], 0), (.getfield 21, [3, 1, 0], 0), (.ifCond .gt 5, [9, 1], 0), (.iconst 0, [], 0), (.ireturn, [0], 0)]),
  (9, [(.iconst 0, [], 0), (.istore_n 1, [], 0), (.iconst 1, [], 0), (.istore_n 2, [], 0), (.nop, [13, 1, 1, 1], 0)]),
  (13, [(.iload_n 2, [], 0), (.aload_n 0, [], 0), (.getfield 21, [3, 1, 0], 0), (.if_icmp .ge 24, [42, 1, 1], 0), (.aload_n 0, [], 0), (.iload_n 2, [], 0), (.invokevirtual 31, [172, 2, 1, 2, 3], 0), (.aload_n 0, [], 0), (.iload_n 1, [], 0), (.invokevirtual 31, [172, 2, 1, 2, 3], 0), (.if_icmp .ge 5, [36, 1, 1, 1], 0), (.iload_n 2, [], 0), (.istore_n 1, [], 0), (.nop, [36, 1, 1, 1], 0)]),
  (36, [(.iinc 2 1, [], 0), (.goto (-26), [13, 1, 1, 1], 0)]),
  (42, [(.aload_n 0, [], 0), (.iload_n 1, [], 0), (.invokevirtual 31, [172, 2, 1, 2, 3], 0), (.istore_n 2, [], 0), (.aload_n 0, [], 0), (.iload_n 1, [], 0), (.aload_n 0, [], 0), (.aload_n 0, [], 0), (.getfield 21, [3, 1, 0], 0), (.iconst 1, [], 0), (.isub, [], 0), (.invokevirtual 31, [172, 2, 1, 2, 3], 0), (.invokevirtual 43, [173, 3, 0, 3, 3], 0), (.aload_n 0, [], 0), (.invokevirtual 47, [175, 1, 0, 1, 3], 0), (.iload_n 2, [], 0), (.ireturn, [0], 0)])]
/-- MindReaders$Row.turn(I)V -/
def zc_184 : List (Nat × List zE) := [(0, [(.iconst 0, [], 0), (.istore_n 2, [], 0), (.nop, [2, 1, 1, 1], 0)]),
  (2, [(.iload_n 2, [], 0), (.aload_n 0, [], 0), (.getfield 21, [3, 1, 0], 0), (.if_icmp .ge 35, [42], 0), (.aload_n 0, [], 0), (.iload_n 2, [], 0), (.invokevirtual 31, [172, 2, 1, 2, 3], 0), (.iconst 1, [], 0), (.iadd, [], 0), (.istore_n 3, [], 0), (.iload_n 3, [], 0), (.iload_n 1, [], 0), (.if_icmp .ge 10, [30, 1, 1, 1], 0), (.aload_n 0, [], 0), (.iload_n 2, [], 0), (.iload_n 3, [], 0), (.invokevirtual 43, [173, 3, 0, 3, 3], 0), (.return_, [], 0)]),
  (30, [(.aload_n 0, [], 0), (.iload_n 2, [], 0), (.iconst 0, [], 0), (.invokevirtual 43, [173, 3, 0, 3, 3], 0), (.iinc 2 1, [], 0), (.goto (-37), [2, 1, 1, 1], 0)]),
  (42, [(.return_, [], 0)])]
/-- MindReaders$Rows.<init>(II)V -/
def zc_185 : List (Nat × List zE) := [(0, [(.aload_n 0, [], 0), (.invokespecial 1, [], 0), (.aload_n 0, [], 0), (.new 7, [3, 2, 0], 0), (.dup, [], 0), (.iconst 0, [], 0), (.invokespecial 9, [170, 2, 0, 2, 3], 0), (.putfield 12, [4, 1, 2], 0), (.aload_n 0, [], 0), (.iload_n 1, [], 0), (.iconst 0, [], 0), (.invokestatic 18, [200, 2, 1, 2], 0), (.anewarray 7, [105], 0), (.putfield 24, [4, 0, 2], 0), (.iconst 0, [], 0), (.istore_n 3, [], 0), (.nop, [30, 1, 0, 1, 1], 0)]),
  (30, [(.iload_n 3, [], 0), (.aload_n 0, [], 0), (.getfield 24, [4, 0, 2], 0), (.arraylength, [], 0), (.if_icmp .ge 23, [59], 0), (.aload_n 0, [], 0), (.getfield 24, [4, 0, 2], 0), (.iload_n 3, [], 0), (.new 7, [3, 2, 0], 0), (.dup, [], 0), (.iload_n 2, [], 0), (.invokespecial 9, [170, 2, 0, 2, 3], 0), (.aastore, [105, 3], 0), (.iinc 3 1, [], 0), (.goto (-26), [30, 1, 0, 1, 1], 0)]),
  (59, [(.return_, [], 0)])]
/-- MindReaders$Rows.row(I)LMindReaders$Row; -/
def zc_186 : List (Nat × List zE) := [(0, [(.iload_n 1, [], 0), (.ifCond .lt 21, [22, 1], 0), (.iload_n 1, [], 0), (.aload_n 0, [], 0), (.getfield 24, [4, 0, 2], 0), (.arraylength, [], 0), (.if_icmp .ge 12, [22, 1], 0), (.aload_n 0, [], 0), (.getfield 24, [4, 0, 2], 0), (.iload_n 1, [], 0), (.aaload, [105], 0), (.goto 4, [23, 1], 0)]),
  (22, [(.aconst_null, [], 0), (.nop, [23, 1], 0)]),
  (23, [(.astore_n 2, [], 0), (.aload_n 2, [], 0), (.ifnonnull 10, [35, 0, 0, 1], 0), (.aload_n 0, [], 0), (.getfield 12, [4, 1, 2], 0), (.goto 4, [36], 0)]),
  (35, [(.aload_n 2, [], 0), (.nop, [36], 0)]),
  (36, [(.areturn, [], 0)])]
/-- MindReaders$Signals.<init>()V -/
def zc_187 : List (Nat × List zE) := [(0, [(.aload_n 0, [], 0), (.invokespecial 3, [], 0), (.aload_n 0, [], 0), (.new 9, [3, 2, 0], 0), (.dup, [], 0), (.bipush 8, [], 0), (.invokespecial 11, [170, 2, 0, 2, 3], 0), (.putfield 14, [5, 0, 2], 0), (.aload_n 0, [], 0), (.new 9, [3, 2, 0], 0), (.dup, [], 0), (.bipush 8, [], 0), (.invokespecial 11, [170, 2, 0, 2, 3], 0), (.putfield 20, [5, 1, 2], 0), (.aload_n 0, [], 0), (.new 9, [3, 2, 0], 0), (.dup, [], 0), (.bipush 8, [], 0), (.invokespecial 11, [170, 2, 0, 2, 3], 0), (.putfield 23, [5, 2, 2], 0), (.aload_n 0, [], 0), (.new 9, [3, 2, 0], 0), (.dup, [], 0), (.bipush 8, [], 0), (.invokespecial 11, [170, 2, 0, 2, 3], 0), (.putfield 26, [5, 3, 2], 0), (.return_, [], 0)])]
/-- MindReaders$Signals.told()I -/
def zc_188 : List (Nat × List zE) := [(0, [(.aload_n 0, [], 0), (.getfield 14, [5, 0, 2], 0), (.invokevirtual 29, [171, 1, 1, 1, 3], 0), (.ireturn, [0], 0)])]
/-- MindReaders$Signals.isTold(I)Z -/
def zc_189 : List (Nat × List zE) := [(0, [(.iload_n 1, [], 0), (.ifCond .lt 18, [19], 0), (.iload_n 1, [], 0), (.aload_n 0, [], 0), (.getfield 14, [5, 0, 2], 0), (.invokevirtual 29, [171, 1, 1, 1, 3], 0), (.if_icmp .ge 7, [19], 0), (.iconst 1, [], 0), (.goto 4, [20], 0)]),
  (19, [(.iconst 0, [], 0), (.nop, [20], 0)]),
  (20, [(.ireturn, [1], 0)])]
/-- MindReaders$Signals.tell(IIII)V -/
def zc_190 : List (Nat × List zE) := [(0, [(.aload_n 0, [], 0), (.getfield 14, [5, 0, 2], 0), (.iload_n 1, [], 0), (.invokevirtual 33, [174, 2, 0, 2, 3], 0), (.aload_n 0, [], 0), (.getfield 20, [5, 1, 2], 0), (.iload_n 2, [], 0), (.invokevirtual 33, [174, 2, 0, 2, 3], 0), (.aload_n 0, [], 0), (.getfield 23, [5, 2, 2], 0), (.iload_n 3, [], 0), (.invokevirtual 33, [174, 2, 0, 2, 3], 0), (.aload_n 0, [], 0), (.getfield 26, [5, 3, 2], 0), (.iload 4, [], 0), (.invokevirtual 33, [174, 2, 0, 2, 3], 0), (.return_, [], 0)])]
/-- MindReaders$Signals.kindOf(I)I -/
def zc_191 : List (Nat × List zE) := [(0, [(.aload_n 0, [], 0), (.getfield 14, [5, 0, 2], 0), (.iload_n 1, [], 0), (.invokevirtual 36, [172, 2, 1, 2, 3], 0), (.istore_n 2, [], 0), (.iload_n 2, [], 0), (.iconst (-1), [], 0), (.if_icmp .ne 7, [18, 0, 0, 1], 0), (.iconst 0, [], 0), (.goto 4, [19], 0)]),
  (18, [(.iload_n 2, [], 0), (.nop, [19], 0)]),
  (19, [(.ireturn, [0], 0)])]
/-- MindReaders$Signals.toneOf(I)I -/
def zc_192 : List (Nat × List zE) := [(0, [(.aload_n 0, [], 0), (.getfield 20, [5, 1, 2], 0), (.iload_n 1, [], 0), (.invokevirtual 36, [172, 2, 1, 2, 3], 0), (.ireturn, [0], 0)])]
/-- MindReaders$Signals.secondsOf(I)I -/
def zc_193 : List (Nat × List zE) := [(0, [(.aload_n 0, [], 0), (.getfield 23, [5, 2, 2], 0), (.iload_n 1, [], 0), (.invokevirtual 36, [172, 2, 1, 2, 3], 0), (.istore_n 2, [], 0), (.iload_n 2, [], 0), (.iconst (-1), [], 0), (.if_icmp .ne 7, [18, 0, 0, 1], 0), (.iconst 1, [], 0), (.goto 4, [19], 0)]),
  (18, [(.iload_n 2, [], 0), (.nop, [19], 0)]),
  (19, [(.ireturn, [0], 0)])]
/-- MindReaders$Signals.oddOf(I)I -/
def zc_194 : List (Nat × List zE) := [(0, [(.aload_n 0, [], 0), (.getfield 26, [5, 3, 2], 0), (.iload_n 1, [], 0), (.invokevirtual 36, [172, 2, 1, 2, 3], 0), (.istore_n 2, [], 0), (.iload_n 2, [], 0), (.iconst (-1), [], 0), (.if_icmp .ne 7, [18, 0, 0, 1], 0), (.iconst 0, [], 0), (.goto 4, [19], 0)]),
  (18, [(.iload_n 2, [], 0), (.nop, [19], 0)]),
  (19, [(.ireturn, [0], 0)])]
/-- MindReaders$Signals.isToneFor(II)Z -/
def zc_195 : List (Nat × List zE) := [(0, [(.iload_n 1, [], 0), (.iconst 2, [], 0), (.if_icmp .eq 14, [16, 1, 0, 1], 0), (.iload_n 2, [], 0), (.iconst (-1), [], 0), (.if_icmp .ne 7, [14], 0), (.iconst 1, [], 0), (.goto 4, [15], 0)]),
  (14, [(.iconst 0, [], 0), (.nop, [15], 0)]),
  (15, [(.ireturn, [1], 0)]),
  (16, [(.aload_n 0, [], 0), (.iload_n 2, [], 0), (.invokevirtual 40, [189, 2, 1, 2, 5], 0), (.ifCond .eq 24, [45], 0), (.aload_n 0, [], 0), (.iload_n 2, [], 0), (.invokevirtual 44, [191, 2, 1, 3, 5], 0), (.ifCond .eq 12, [41], 0), (.aload_n 0, [], 0), (.iload_n 2, [], 0), (.invokevirtual 44, [191, 2, 1, 3, 5], 0), (.iconst 1, [], 0), (.if_icmp .ne 7, [45], 0), (.nop, [41], 0)]),
  (41, [(.iconst 1, [], 0), (.goto 4, [46], 0)]),
  (45, [(.iconst 0, [], 0), (.nop, [46], 0)]),
  (46, [(.ireturn, [1], 0)])]
/-- MindReaders$Signals.secondsOfAll(LMindReaders$Row;)I -/
def zc_196 : List (Nat × List zE) := [(0, [(.iconst 0, [], 0), (.istore_n 2, [], 0), (.iconst 0, [], 0), (.istore_n 3, [], 0), (.nop, [4, 1, 1, 1, 1], 0)]),
  (4, [(.iload_n 3, [], 0), (.aload_n 1, [], 0), (.invokevirtual 29, [171, 1, 1, 1, 3], 0), (.if_icmp .ge 21, [30, 0, 0, 1], 0), (.iload_n 2, [], 0), (.aload_n 0, [], 0), (.aload_n 1, [], 0), (.iload_n 3, [], 0), (.invokevirtual 36, [172, 2, 1, 2, 3], 0), (.invokevirtual 47, [193, 2, 1, 3, 5], 0), (.iadd, [], 0), (.istore_n 2, [], 0), (.iinc 3 1, [], 0), (.goto (-23), [4, 1, 1, 1, 1], 0)]),
  (30, [(.iload_n 2, [], 0), (.ireturn, [0], 0)])]
/-- MindReaders$Signals.oddOfAll(LMindReaders$Row;)I -/
def zc_197 : List (Nat × List zE) := [(0, [(.iconst 0, [], 0), (.istore_n 2, [], 0), (.iconst 0, [], 0), (.istore_n 3, [], 0), (.nop, [4, 1, 1, 1, 1], 0)]),
  (4, [(.iload_n 3, [], 0), (.aload_n 1, [], 0), (.invokevirtual 29, [171, 1, 1, 1, 3], 0), (.if_icmp .ge 21, [30, 0, 0, 1], 0), (.iload_n 2, [], 0), (.aload_n 0, [], 0), (.aload_n 1, [], 0), (.iload_n 3, [], 0), (.invokevirtual 36, [172, 2, 1, 2, 3], 0), (.invokevirtual 50, [194, 2, 1, 3, 5], 0), (.iadd, [], 0), (.istore_n 2, [], 0), (.iinc 3 1, [], 0), (.goto (-23), [4, 1, 1, 1, 1], 0)]),
  (30, [(.iload_n 2, [], 0), (.ireturn, [0], 0)])]
/-- MindReaders$Signals.makePlain(LMindReaders$Row;ILMindReaders$Row;)V -/
def zc_198 : List (Nat × List zE) := [(0, [(.aload_n 3, [], 0), (.invokevirtual 53, [176, 1, 0, 1, 3], 0), (.iconst 0, [], 0), (.istore 4, [], 0), (.nop, [7, 1, 1, 1, 1, 1], 0)]),
  (7, [(.iload 4, [], 0), (.aload_n 1, [], 0), (.invokevirtual 29, [171, 1, 1, 1, 3], 0), (.if_icmp .ge 96, [109], 0), (.aload_n 1, [], 0), (.iload 4, [], 0), (.invokevirtual 36, [172, 2, 1, 2, 3], 0), (.istore 5, [], 0), (.iload_n 2, [], 0), (.iload 5, [], 0), (.ishr, [], 0), (.iconst 1, [], 0), (.iand, [], 0), (.ifCond .eq 6, [36, 1, 1, 1, 1, 1, 1], 0), (.goto 70, [103, 1, 1, 1, 1, 1], 0)]),
  (36, [(.aload_n 0, [], 0), (.iload 5, [], 0), (.invokevirtual 44, [191, 2, 1, 3, 5], 0), (.istore 6, [], 0), (.iload 6, [], 0), (.ifCond .eq 9, [55, 1, 1, 1, 1, 1, 1], 0), (.iload 6, [], 0), (.iconst 1, [], 0), (.if_icmp .ne 12, [64, 1, 1, 1, 1, 1, 1, 1], 0), (.nop, [55, 1, 1, 1, 1, 1, 1], 0)]),
  (55, [(.aload_n 3, [], 0), (.iload 5, [], 0), (.invokevirtual 33, [174, 2, 0, 2, 3], 0), (.goto 42, [103, 1, 1, 1, 1, 1], 0)]),
  (64, [(.iload 6, [], 0), (.iconst 2, [], 0), (.if_icmp .ne 26, [93, 1, 1, 1, 1, 1, 0, 1], 0), (.aload_n 3, [], 0), (.aload_n 0, [], 0), (.iload 5, [], 0), (.invokevirtual 56, [192, 2, 1, 2, 5], 0), (.invokevirtual 33, [174, 2, 0, 2, 3], 0), (.aload_n 3, [], 0), (.aload_n 0, [], 0), (.iload 5, [], 0), (.invokevirtual 56, [192, 2, 1, 2, 5], 0), (.invokevirtual 33, [174, 2, 0, 2, 3], 0), (.goto 13, [103, 1, 1, 1, 1, 1], 0)]),
  (93, [(.iload 6, [], 0), (.iconst 4, [], 0), (.if_icmp .ne 7, [103, 1, 1, 1, 1, 1], 0), (.aload_n 3, [], 0), (.invokevirtual 59, [175, 1, 0, 1, 3], 0), (.nop, [103, 1, 1, 1, 1, 1], 0)]),
  (103, [(.iinc 4 1, [], 0), (.goto (-99), [7, 1, 1, 1, 1, 1], 0)]),
  (109, [(.return_, [], 0)])]
/-- java/lang/Integer.bitCount(I)I -/
def zc_199 : List (Nat × List zE) := [(0, [(.iload_n 0, [], 0), (.iload_n 0, [], 0), (.iconst 1, [], 0), (.iushr, [], 0), (.ldc_w 265, [], 1431655765), (.iand, [], 0), (.isub, [], 0), (.istore_n 0, [], 0), (.iload_n 0, [], 0), (.ldc_w 266, [], 858993459), (.iand, [], 0), (.iload_n 0, [], 0), (.iconst 2, [], 0), (.iushr, [], 0), (.ldc_w 266, [], 858993459), (.iand, [], 0), (.iadd, [], 0), (.istore_n 0, [], 0), (.iload_n 0, [], 0), (.iload_n 0, [], 0), (.iconst 4, [], 0), (.iushr, [], 0), (.iadd, [], 0), (.ldc_w 267, [], 252645135), (.iand, [], 0), (.istore_n 0, [], 0), (.iload_n 0, [], 0), (.iload_n 0, [], 0), (.bipush 8, [], 0), (.iushr, [], 0), (.iadd, [], 0), (.istore_n 0, [], 0), (.iload_n 0, [], 0), (.iload_n 0, [], 0), (.bipush 16, [], 0), (.iushr, [], 0), (.iadd, [], 0), (.istore_n 0, [], 0), (.iload_n 0, [], 0), (.bipush 63, [], 0), (.iand, [], 0), (.ireturn, [0], 0)])]
/-- java/lang/Math.max(II)I -/
def zc_200 : List (Nat × List zE) := [(0, [(.iload_n 0, [], 0), (.iload_n 1, [], 0), (.if_icmp .lt 7, [9, 0, 1], 0), (.iload_n 0, [], 0), (.goto 4, [10], 0)]),
  (9, [(.iload_n 1, [], 0), (.nop, [10], 0)]),
  (10, [(.ireturn, [0], 0)])]
/-- java/lang/Math.min(II)I -/
def zc_201 : List (Nat × List zE) := [(0, [(.iload_n 0, [], 0), (.iload_n 1, [], 0), (.if_icmp .gt 7, [9, 0, 1], 0), (.iload_n 0, [], 0), (.goto 4, [10], 0)]),
  (9, [(.iload_n 1, [], 0), (.nop, [10], 0)]),
  (10, [(.ireturn, [0], 0)])]
def zmtl : List zM := [(x, code, 4, ret, 10, 235),
  (⟨"MindReaders", "<init>", "()V"⟩, prog_1_method_1_code, 2, none, 4, 85),
  (⟨"MindReaders", "letters", "(J)I"⟩, prog_1_method_2_code, 5, some .int, 2, 46),
  (⟨"MindReaders", "blank", "()I"⟩, prog_1_method_3_code, 2, some .int, 1, 20),
  (⟨"MindReaders", "fault", "()I"⟩, prog_1_method_4_code, 1, some .int, 2, 45),
  (⟨"MindReaders", "code", "()I"⟩, prog_1_method_5_code, 3, some .int, 4, 91),
  (⟨"MindReaders", "signal", "(IIII)I"⟩, prog_1_method_6_code, 7, some .int, 4, 91),
  (⟨"MindReaders", "as", "(II)I"⟩, prog_1_method_7_code, 5, some .int, 2, 43),
  (⟨"MindReaders", "about", "(II)I"⟩, prog_1_method_8_code, 3, some .int, 2, 43),
  (⟨"MindReaders", "thing", "(I)I"⟩, prog_1_method_9_code, 2, some .int, 1, 21),
  (⟨"MindReaders", "weigh", "(II)I"⟩, prog_1_method_10_code, 4, some .int, 2, 41),
  (⟨"MindReaders", "speech", "(III)I"⟩, prog_1_method_11_code, 5, some .int, 4, 88),
  (⟨"MindReaders", "means", "(I)I"⟩, prog_1_method_12_code, 3, some .int, 4, 89),
  (⟨"MindReaders", "clear", "(II)I"⟩, prog_1_method_13_code, 5, some .int, 4, 86),
  (⟨"MindReaders", "starts", "(II)I"⟩, prog_1_method_14_code, 4, some .int, 3, 65),
  (⟨"MindReaders", "twice", "(I)I"⟩, prog_1_method_15_code, 3, some .int, 5, 123),
  (⟨"MindReaders", "mean", "(II)I"⟩, prog_1_method_16_code, 8, some .int, 4, 88),
  (⟨"MindReaders", "oddness", "(I)I"⟩, prog_1_method_17_code, 6, some .int, 3, 66),
  (⟨"MindReaders", "dealt", "(II)I"⟩, prog_1_method_18_code, 8, some .int, 6, 138),
  (⟨"MindReaders", "shortest", "(II)I"⟩, prog_1_method_19_code, 3, some .int, 3, 71),
  (⟨"MindReaders", "apart", "(I)I"⟩, prog_1_method_20_code, 3, some .int, 3, 68),
  (⟨"MindReaders", "named", "(I)I"⟩, prog_1_method_21_code, 3, some .int, 4, 89),
  (⟨"MindReaders", "right", "(IIIII)J"⟩, prog_1_method_22_code, 8, some .long, 4, 101),
  (⟨"MindReaders", "note", "(I)I"⟩, prog_1_method_23_code, 2, some .int, 3, 65),
  (⟨"MindReaders", "forget", "()I"⟩, prog_1_method_24_code, 2, some .int, 2, 40),
  (⟨"MindReaders", "which", "()I"⟩, prog_1_method_25_code, 4, some .int, 4, 94),
  (⟨"MindReaders", "step", "(II)I"⟩, prog_1_method_26_code, 6, some .int, 4, 94),
  (⟨"MindReaders", "seen", "(II)J"⟩, prog_1_method_27_code, 3, some .long, 2, 52),
  (⟨"MindReaders", "change", "(II)I"⟩, prog_1_method_28_code, 5, some .int, 5, 112),
  (⟨"MindReaders", "cheapest", "(I)I"⟩, prog_1_method_29_code, 8, some .int, 5, 112),
  (⟨"MindReaders", "luck", "(IIII)J"⟩, prog_1_method_30_code, 8, some .long, 1, 31),
  (⟨"MindReaders", "left", "(II)I"⟩, prog_1_method_31_code, 4, some .int, 4, 96),
  (⟨"MindReaders", "stop", "(I)I"⟩, prog_1_method_32_code, 5, some .int, 4, 96),
  (⟨"MindReaders", "image", "()I"⟩, prog_1_method_33_code, 1, some .int, 4, 87),
  (⟨"MindReaders", "restore", "()I"⟩, prog_1_method_34_code, 2, some .int, 4, 87),
  (⟨"MindReaders", "count", "(I)I"⟩, prog_1_method_35_code, 2, some .int, 2, 44),
  (⟨"MindReaders", "digest", "()J"⟩, prog_1_method_36_code, 5, some .long, 6, 151),
  (⟨"MindReaders", "mix", "(JJ)J"⟩, prog_1_method_37_code, 4, some .long, 0, 0),
  (⟨"MindReaders", "mixRow", "(JLMindReaders$Row;)J"⟩, prog_1_method_38_code, 6, some .long, 1, 23),
  (⟨"MindReaders", "mixCode", "(JILMindReaders$Code;)J"⟩, prog_1_method_39_code, 9, some .long, 5, 123),
  (⟨"MindReaders", "byteOf", "(JI)I"⟩, prog_1_method_40_code, 3, some .int, 0, 0),
  (⟨"MindReaders", "lettersIn", "(J)I"⟩, prog_1_method_41_code, 5, some .int, 1, 22),
  (⟨"MindReaders", "signalOf", "(I)I"⟩, prog_1_method_42_code, 1, some .int, 0, 0),
  (⟨"MindReaders", "firstFault", "()I"⟩, prog_1_method_43_code, 5, some .int, 1, 21),
  (⟨"MindReaders", "readPage", "()Z"⟩, prog_1_method_44_code, 3, some .boolean, 1, 21),
  (⟨"MindReaders", "hearPage", "()Z"⟩, prog_1_method_45_code, 1, some .boolean, 3, 69),
  (⟨"MindReaders", "isWeight", "(I)Z"⟩, prog_1_method_46_code, 1, some .boolean, 0, 0),
  (⟨"MindReaders", "isPart", "(I)Z"⟩, prog_1_method_47_code, 1, some .boolean, 0, 0),
  (⟨"MindReaders", "isThing", "(I)Z"⟩, prog_1_method_48_code, 2, some .boolean, 1, 20),
  (⟨"MindReaders", "codeAt", "(I)LMindReaders$Code;"⟩, prog_1_method_49_code, 2, some (.object "MindReaders$Code"), 0, 0),
  (⟨"MindReaders", "thingsSaid", "(LMindReaders$Code;)I"⟩, prog_1_method_50_code, 2, some .int, 1, 21),
  (⟨"MindReaders", "longOf", "(LMindReaders$Code;I)I"⟩, prog_1_method_51_code, 3, some .int, 3, 66),
  (⟨"MindReaders", "ofPair", "(II)I"⟩, prog_1_method_52_code, 2, some .int, 0, 0),
  (⟨"MindReaders", "dealtTo", "(LMindReaders$Code;I)I"⟩, prog_1_method_53_code, 6, some .int, 5, 113),
  (⟨"MindReaders", "rankByLong", "(LMindReaders$Code;II)I"⟩, prog_1_method_54_code, 6, some .int, 4, 88),
  (⟨"MindReaders", "isAhead", "(IIII)Z"⟩, prog_1_method_55_code, 4, some .boolean, 0, 0),
  (⟨"MindReaders", "changeOf", "(LMindReaders$Code;LMindReaders$Code;)I"⟩, prog_1_method_56_code, 5, some .int, 4, 88),
  (⟨"MindReaders", "notesLet", "(LMindReaders$Code;II)Z"⟩, prog_1_method_57_code, 6, some .boolean, 3, 69),
  (⟨"MindReaders", "leastLong", "(I)J"⟩, prog_1_method_58_code, 8, some .long, 2, 44),
  (⟨"MindReaders", "waysNamed", "(LMindReaders$Code;III)J"⟩, prog_1_method_59_code, 13, some .long, 3, 69),
  (⟨"MindReaders", "waysHeard", "(LMindReaders$Row;II)J"⟩, prog_1_method_60_code, 7, some .long, 1, 21),
  (⟨"MindReaders", "waysAllSeen", "(I)J"⟩, prog_1_method_61_code, 8, some .long, 1, 25),
  (⟨"MindReaders", "choices", "(II)J"⟩, prog_1_method_62_code, 5, some .long, 0, 0),
  (⟨"MindReaders", "power", "(JI)J"⟩, prog_1_method_63_code, 6, some .long, 0, 0),
  (⟨"MindReaders", "lowest", "(JJI)J"⟩, prog_1_method_64_code, 12, some .long, 0, 0),
  (⟨"MindReaders", "unlike", "(LMindReaders$Code;II)I"⟩, prog_1_method_65_code, 8, some .int, 3, 69),
  (⟨"MindReadersModel", "<init>", "()V"⟩, prog_9_method_1_code, 1, none, 1, 20),
  (⟨"MindReadersModel", "in", "(JJJ)Z"⟩, prog_9_method_2_code, 6, some .boolean, 0, 0),
  (⟨"MindReadersModel", "letters", "(J)I"⟩, prog_9_method_3_code, 9, some .int, 0, 0),
  (⟨"MindReadersModel", "blank", "()I"⟩, prog_9_method_4_code, 2, some .int, 0, 0),
  (⟨"MindReadersModel", "go", "(I)Z"⟩, prog_9_method_5_code, 3, some .boolean, 1, 25),
  (⟨"MindReadersModel", "faultOf", "()I"⟩, prog_9_method_6_code, 2, some .int, 2, 47),
  (⟨"MindReadersModel", "fault", "()I"⟩, prog_9_method_7_code, 1, some .int, 3, 68),
  (⟨"MindReadersModel", "code", "()I"⟩, prog_9_method_8_code, 2, some .int, 3, 68),
  (⟨"MindReadersModel", "isCode", "(I)Z"⟩, prog_9_method_9_code, 2, some .boolean, 1, 25),
  (⟨"MindReadersModel", "signal", "(IIII)I"⟩, prog_9_method_10_code, 6, some .int, 1, 25),
  (⟨"MindReadersModel", "isSignal", "(I)Z"⟩, prog_9_method_11_code, 2, some .boolean, 1, 25),
  (⟨"MindReadersModel", "as", "(II)I"⟩, prog_9_method_12_code, 5, some .int, 2, 46),
  (⟨"MindReadersModel", "about", "(II)I"⟩, prog_9_method_13_code, 3, some .int, 2, 46),
  (⟨"MindReadersModel", "thing", "(I)I"⟩, prog_9_method_14_code, 2, some .int, 1, 25),
  (⟨"MindReadersModel", "isThing", "(I)Z"⟩, prog_9_method_15_code, 2, some .boolean, 1, 25),
  (⟨"MindReadersModel", "weigh", "(II)I"⟩, prog_9_method_16_code, 4, some .int, 2, 46),
  (⟨"MindReadersModel", "kindOf", "(I)I"⟩, prog_9_method_17_code, 2, some .int, 2, 46),
  (⟨"MindReadersModel", "secondsOf", "(I)I"⟩, prog_9_method_18_code, 2, some .int, 2, 46),
  (⟨"MindReadersModel", "oddOf", "(I)I"⟩, prog_9_method_19_code, 2, some .int, 2, 46),
  (⟨"MindReadersModel", "stand", "(I)V"⟩, prog_9_method_20_code, 3, none, 3, 67),
  (⟨"MindReadersModel", "layPlain", "(III)V"⟩, prog_9_method_21_code, 6, none, 4, 89),
  (⟨"MindReadersModel", "layAll", "(II)V"⟩, prog_9_method_22_code, 5, none, 5, 114),
  (⟨"MindReadersModel", "longOf", "(II)I"⟩, prog_9_method_23_code, 6, some .int, 3, 67),
  (⟨"MindReadersModel", "speechOf", "(III)I"⟩, prog_9_method_24_code, 5, some .int, 5, 114),
  (⟨"MindReadersModel", "speech", "(III)I"⟩, prog_9_method_25_code, 4, some .int, 6, 138),
  (⟨"MindReadersModel", "isStart", "(III)Z"⟩, prog_9_method_26_code, 6, some .boolean, 0, 0),
  (⟨"MindReadersModel", "isAlike", "(II)Z"⟩, prog_9_method_27_code, 3, some .boolean, 1, 25),
  (⟨"MindReadersModel", "layPage", "()Z"⟩, prog_9_method_28_code, 3, some .boolean, 4, 89),
  (⟨"MindReadersModel", "differs", "(I)I"⟩, prog_9_method_29_code, 4, some .int, 0, 0),
  (⟨"MindReadersModel", "namedNow", "(I)I"⟩, prog_9_method_30_code, 6, some .int, 1, 23),
  (⟨"MindReadersModel", "means", "(I)I"⟩, prog_9_method_31_code, 3, some .int, 6, 138),
  (⟨"MindReadersModel", "alikeOf", "(I)I"⟩, prog_9_method_32_code, 4, some .int, 6, 138),
  (⟨"MindReadersModel", "clear", "(II)I"⟩, prog_9_method_33_code, 4, some .int, 7, 161),
  (⟨"MindReadersModel", "starts", "(II)I"⟩, prog_9_method_34_code, 7, some .int, 6, 138),
  (⟨"MindReadersModel", "goesOn", "(III)Z"⟩, prog_9_method_35_code, 8, some .boolean, 0, 0),
  (⟨"MindReadersModel", "reach", "(III)Z"⟩, prog_9_method_36_code, 5, some .boolean, 0, 0),
  (⟨"MindReadersModel", "reachBy", "(IIII)Z"⟩, prog_9_method_37_code, 7, some .boolean, 1, 24),
  (⟨"MindReadersModel", "twiceOf", "(I)I"⟩, prog_9_method_38_code, 10, some .int, 6, 138),
  (⟨"MindReadersModel", "twice", "(I)I"⟩, prog_9_method_39_code, 2, some .int, 7, 167),
  (⟨"MindReadersModel", "saidBy", "(I)I"⟩, prog_9_method_40_code, 2, some .int, 0, 0),
  (⟨"MindReadersModel", "common", "(JJ)J"⟩, prog_9_method_41_code, 10, some .long, 0, 0),
  (⟨"MindReadersModel", "term", "(JJI)J"⟩, prog_9_method_42_code, 7, some .long, 1, 29),
  (⟨"MindReadersModel", "isPart", "(I)Z"⟩, prog_9_method_43_code, 1, some .boolean, 1, 25),
  (⟨"MindReadersModel", "weighed", "(I)I"⟩, prog_9_method_44_code, 4, some .int, 0, 0),
  (⟨"MindReadersModel", "mean", "(II)I"⟩, prog_9_method_45_code, 6, some .int, 4, 92),
  (⟨"MindReadersModel", "oddnessOf", "(I)I"⟩, prog_9_method_46_code, 6, some .int, 3, 67),
  (⟨"MindReadersModel", "oddness", "(I)I"⟩, prog_9_method_47_code, 2, some .int, 4, 92),
  (⟨"MindReadersModel", "placeOf", "(II)I"⟩, prog_9_method_48_code, 5, some .int, 0, 0),
  (⟨"MindReadersModel", "speechAt", "(III)I"⟩, prog_9_method_49_code, 9, some .int, 4, 92),
  (⟨"MindReadersModel", "dealt", "(II)I"⟩, prog_9_method_50_code, 6, some .int, 5, 120),
  (⟨"MindReadersModel", "takeLeast", "(I)I"⟩, prog_9_method_51_code, 4, some .int, 0, 0),
  (⟨"MindReadersModel", "shortNow", "(I)I"⟩, prog_9_method_52_code, 7, some .int, 1, 23),
  (⟨"MindReadersModel", "shortest", "(II)I"⟩, prog_9_method_53_code, 3, some .int, 2, 55),
  (⟨"MindReadersModel", "apartOf", "(I)I"⟩, prog_9_method_54_code, 7, some .int, 6, 138),
  (⟨"MindReadersModel", "apart", "(I)I"⟩, prog_9_method_55_code, 2, some .int, 7, 164),
  (⟨"MindReadersModel", "named", "(I)I"⟩, prog_9_method_56_code, 2, some .int, 6, 138),
  (⟨"MindReadersModel", "isAmong", "(II)Z"⟩, prog_9_method_57_code, 5, some .boolean, 0, 0),
  (⟨"MindReadersModel", "right", "(IIIII)J"⟩, prog_9_method_58_code, 17, some .long, 6, 138),
  (⟨"MindReadersModel", "note", "(I)I"⟩, prog_9_method_59_code, 3, some .int, 5, 111),
  (⟨"MindReadersModel", "forget", "()I"⟩, prog_9_method_60_code, 2, some .int, 0, 0),
  (⟨"MindReadersModel", "isSaid", "(III)Z"⟩, prog_9_method_61_code, 5, some .boolean, 4, 89),
  (⟨"MindReadersModel", "whichNow", "()I"⟩, prog_9_method_62_code, 5, some .int, 6, 138),
  (⟨"MindReadersModel", "which", "()I"⟩, prog_9_method_63_code, 1, some .int, 7, 162),
  (⟨"MindReadersModel", "step", "(II)I"⟩, prog_9_method_64_code, 8, some .int, 6, 138),
  (⟨"MindReadersModel", "seen", "(II)J"⟩, prog_9_method_65_code, 8, some .long, 2, 55),
  (⟨"MindReadersModel", "isLike", "(III)Z"⟩, prog_9_method_66_code, 8, some .boolean, 0, 0),
  (⟨"MindReadersModel", "changeOf", "(II)I"⟩, prog_9_method_67_code, 6, some .int, 4, 92),
  (⟨"MindReadersModel", "change", "(II)I"⟩, prog_9_method_68_code, 3, some .int, 5, 117),
  (⟨"MindReadersModel", "cheapest", "(I)I"⟩, prog_9_method_69_code, 7, some .int, 5, 117),
  (⟨"MindReadersModel", "luck", "(IIII)J"⟩, prog_9_method_70_code, 10, some .long, 2, 55),
  (⟨"MindReadersModel", "leftOf", "(II)I"⟩, prog_9_method_71_code, 7, some .int, 6, 138),
  (⟨"MindReadersModel", "left", "(II)I"⟩, prog_9_method_72_code, 3, some .int, 7, 164),
  (⟨"MindReadersModel", "stopOf", "(I)I"⟩, prog_9_method_73_code, 7, some .int, 7, 164),
  (⟨"MindReadersModel", "stop", "(I)I"⟩, prog_9_method_74_code, 2, some .int, 8, 190),
  (⟨"MindReadersModel", "image", "()I"⟩, prog_9_method_75_code, 2, some .int, 0, 0),
  (⟨"MindReadersModel", "restore", "()I"⟩, prog_9_method_76_code, 2, some .int, 0, 0),
  (⟨"MindReadersModel", "countOf", "(I)I"⟩, prog_9_method_77_code, 2, some .int, 1, 23),
  (⟨"MindReadersModel", "count", "(I)I"⟩, prog_9_method_78_code, 2, some .int, 2, 44),
  (⟨"MindReadersModel", "say", "(J)V"⟩, prog_9_method_79_code, 3, none, 0, 0),
  (⟨"MindReadersModel", "sayCode", "(I)V"⟩, prog_9_method_80_code, 4, none, 8, 190),
  (⟨"MindReadersModel", "digest", "()J"⟩, prog_9_method_81_code, 3, some .long, 9, 213),
  (⟨"MindReaders$Code", "<init>", "()V"⟩, prog_2_method_1_code, 1, none, 3, 65),
  (⟨"MindReaders$Code", "size", "()I"⟩, prog_2_method_2_code, 1, some .int, 0, 0),
  (⟨"MindReaders$Code", "spoken", "(I)LMindReaders$Row;"⟩, prog_2_method_3_code, 2, some (.object "MindReaders$Row"), 1, 22),
  (⟨"MindReaders$Code", "plain", "(I)LMindReaders$Row;"⟩, prog_2_method_4_code, 2, some (.object "MindReaders$Row"), 1, 22),
  (⟨"MindReaders$Code", "readFrom", "(LMindReaders$Row;)V"⟩, prog_2_method_5_code, 4, none, 2, 43),
  (⟨"MindReaders$Code", "makePlain", "(LMindReaders$Signals;)V"⟩, prog_2_method_6_code, 3, none, 3, 69),
  (⟨"MindReaders$Code", "meaningOf", "(LMindReaders$Row;)I"⟩, prog_2_method_7_code, 3, some .int, 3, 64),
  (⟨"MindReaders$Code", "firstAlike", "()I"⟩, prog_2_method_8_code, 3, some .int, 3, 64),
  (⟨"MindReaders$Code", "firstStart", "()I"⟩, prog_2_method_9_code, 3, some .int, 2, 43),
  (⟨"MindReaders$Code", "leastApart", "()I"⟩, prog_2_method_10_code, 5, some .int, 2, 44),
  (⟨"MindReaders$Code", "nearestTo", "(LMindReaders$Row;)I"⟩, prog_2_method_11_code, 6, some .int, 2, 44),
  (⟨"MindReaders$Notes", "<init>", "()V"⟩, prog_3_method_1_code, 1, none, 3, 65),
  (⟨"MindReaders$Notes", "size", "()I"⟩, prog_3_method_2_code, 1, some .int, 1, 20),
  (⟨"MindReaders$Notes", "thingOf", "(I)I"⟩, prog_3_method_3_code, 2, some .int, 1, 21),
  (⟨"MindReaders$Notes", "rowOf", "(I)LMindReaders$Row;"⟩, prog_3_method_4_code, 2, some (.object "MindReaders$Row"), 1, 22),
  (⟨"MindReaders$Notes", "add", "(ILMindReaders$Row;)V"⟩, prog_3_method_5_code, 3, none, 2, 43),
  (⟨"MindReaders$Notes", "wipe", "()V"⟩, prog_3_method_6_code, 1, none, 1, 20),
  (⟨"MindReaders$Notes", "copyOf", "(LMindReaders$Notes;)V"⟩, prog_3_method_7_code, 3, none, 3, 65),
  (⟨"MindReaders$Readings", "<init>", "()V"⟩, prog_4_method_1_code, 1, none, 2, 42),
  (⟨"MindReaders$Readings", "leastTwice", "(LMindReaders$Code;)I"⟩, prog_4_method_2_code, 4, some .int, 4, 100),
  (⟨"MindReaders$Readings", "goOn", "(LMindReaders$Code;)Z"⟩, prog_4_method_3_code, 6, some .boolean, 3, 75),
  (⟨"MindReaders$Readings", "meet", "(LMindReaders$Code;IIII)Z"⟩, prog_4_method_4_code, 10, some .boolean, 2, 46),
  (⟨"MindReaders$Readings", "comeTo", "(III)Z"⟩, prog_4_method_5_code, 5, some .boolean, 1, 22),
  (⟨"MindReaders$Row", "<init>", "(I)V"⟩, prog_5_method_1_code, 2, none, 1, 21),
  (⟨"MindReaders$Row", "size", "()I"⟩, prog_5_method_2_code, 1, some .int, 0, 0),
  (⟨"MindReaders$Row", "at", "(I)I"⟩, prog_5_method_3_code, 2, some .int, 0, 0),
  (⟨"MindReaders$Row", "set", "(II)V"⟩, prog_5_method_4_code, 3, none, 0, 0),
  (⟨"MindReaders$Row", "add", "(I)V"⟩, prog_5_method_5_code, 2, none, 0, 0),
  (⟨"MindReaders$Row", "dropLast", "()V"⟩, prog_5_method_6_code, 1, none, 0, 0),
  (⟨"MindReaders$Row", "wipe", "()V"⟩, prog_5_method_7_code, 1, none, 0, 0),
  (⟨"MindReaders$Row", "copyOf", "(LMindReaders$Row;)V"⟩, prog_5_method_8_code, 3, none, 1, 21),
  (⟨"MindReaders$Row", "isLike", "(LMindReaders$Row;)Z"⟩, prog_5_method_9_code, 2, some .boolean, 2, 43),
  (⟨"MindReaders$Row", "isStartOf", "(LMindReaders$Row;)Z"⟩, prog_5_method_10_code, 3, some .boolean, 1, 21),
  (⟨"MindReaders$Row", "placesApart", "(LMindReaders$Row;)I"⟩, prog_5_method_11_code, 4, some .int, 1, 21),
  (⟨"MindReaders$Row", "isBelow", "(I)Z"⟩, prog_5_method_12_code, 3, some .boolean, 1, 21),
  (⟨"MindReaders$Row", "sumOf", "(I)I"⟩, prog_5_method_13_code, 4, some .int, 1, 21),
  (⟨"MindReaders$Row", "takeLeast", "()I"⟩, prog_5_method_14_code, 3, some .int, 1, 22),
  (⟨"MindReaders$Row", "turn", "(I)V"⟩, prog_5_method_15_code, 4, none, 1, 22),
  (⟨"MindReaders$Rows", "<init>", "(II)V"⟩, prog_6_method_1_code, 4, none, 2, 42),
  (⟨"MindReaders$Rows", "row", "(I)LMindReaders$Row;"⟩, prog_6_method_2_code, 3, some (.object "MindReaders$Row"), 0, 0),
  (⟨"MindReaders$Signals", "<init>", "()V"⟩, prog_7_method_1_code, 1, none, 2, 42),
  (⟨"MindReaders$Signals", "told", "()I"⟩, prog_7_method_2_code, 1, some .int, 1, 20),
  (⟨"MindReaders$Signals", "isTold", "(I)Z"⟩, prog_7_method_3_code, 2, some .boolean, 1, 20),
  (⟨"MindReaders$Signals", "tell", "(IIII)V"⟩, prog_7_method_4_code, 5, none, 1, 21),
  (⟨"MindReaders$Signals", "kindOf", "(I)I"⟩, prog_7_method_5_code, 3, some .int, 1, 21),
  (⟨"MindReaders$Signals", "toneOf", "(I)I"⟩, prog_7_method_6_code, 2, some .int, 1, 21),
  (⟨"MindReaders$Signals", "secondsOf", "(I)I"⟩, prog_7_method_7_code, 3, some .int, 1, 21),
  (⟨"MindReaders$Signals", "oddOf", "(I)I"⟩, prog_7_method_8_code, 3, some .int, 1, 21),
  (⟨"MindReaders$Signals", "isToneFor", "(II)Z"⟩, prog_7_method_9_code, 3, some .boolean, 2, 43),
  (⟨"MindReaders$Signals", "secondsOfAll", "(LMindReaders$Row;)I"⟩, prog_7_method_10_code, 4, some .int, 2, 43),
  (⟨"MindReaders$Signals", "oddOfAll", "(LMindReaders$Row;)I"⟩, prog_7_method_11_code, 4, some .int, 2, 43),
  (⟨"MindReaders$Signals", "makePlain", "(LMindReaders$Row;ILMindReaders$Row;)V"⟩, prog_7_method_12_code, 7, none, 2, 43),
  (⟨"java/lang/Integer", "bitCount", "(I)I"⟩, prog_10_method_49_code, 1, some .int, 0, 0),
  (⟨"java/lang/Math", "max", "(II)I"⟩, prog_11_method_65_code, 2, some .int, 0, 0),
  (⟨"java/lang/Math", "min", "(II)I"⟩, prog_11_method_69_code, 2, some .int, 0, 0)]
def zcol : List (List (Nat × List zE)) := [zc_0, zc_1, zc_2, zc_3, zc_4, zc_5, zc_6, zc_7, zc_8, zc_9, zc_10, zc_11, zc_12, zc_13, zc_14, zc_15, zc_16, zc_17, zc_18, zc_19, zc_20, zc_21, zc_22, zc_23, zc_24, zc_25, zc_26, zc_27, zc_28, zc_29, zc_30, zc_31, zc_32, zc_33, zc_34, zc_35, zc_36, zc_37, zc_38, zc_39, zc_40, zc_41, zc_42, zc_43, zc_44, zc_45, zc_46, zc_47, zc_48, zc_49, zc_50, zc_51, zc_52, zc_53, zc_54, zc_55, zc_56, zc_57, zc_58, zc_59, zc_60, zc_61, zc_62, zc_63, zc_64, zc_65, zc_66, zc_67, zc_68, zc_69, zc_70, zc_71, zc_72, zc_73, zc_74, zc_75, zc_76, zc_77, zc_78, zc_79, zc_80, zc_81, zc_82, zc_83, zc_84, zc_85, zc_86, zc_87, zc_88, zc_89, zc_90, zc_91, zc_92, zc_93, zc_94, zc_95, zc_96, zc_97, zc_98, zc_99, zc_100, zc_101, zc_102, zc_103, zc_104, zc_105, zc_106, zc_107, zc_108, zc_109, zc_110, zc_111, zc_112, zc_113, zc_114, zc_115, zc_116, zc_117, zc_118, zc_119, zc_120, zc_121, zc_122, zc_123, zc_124, zc_125, zc_126, zc_127, zc_128, zc_129, zc_130, zc_131, zc_132, zc_133, zc_134, zc_135, zc_136, zc_137, zc_138, zc_139, zc_140, zc_141, zc_142, zc_143, zc_144, zc_145, zc_146, zc_147, zc_148, zc_149, zc_150, zc_151, zc_152, zc_153, zc_154, zc_155, zc_156, zc_157, zc_158, zc_159, zc_160, zc_161, zc_162, zc_163, zc_164, zc_165, zc_166, zc_167, zc_168, zc_169, zc_170, zc_171, zc_172, zc_173, zc_174, zc_175, zc_176, zc_177, zc_178, zc_179, zc_180, zc_181, zc_182, zc_183, zc_184, zc_185, zc_186, zc_187, zc_188, zc_189, zc_190, zc_191, zc_192, zc_193, zc_194, zc_195, zc_196, zc_197, zc_198, zc_199, zc_200, zc_201]
def zmt (M : Nat) : Option zM := zmtl[M]?
def zblk (M pc : Nat) : Option (List zE) := match zcol[M]? with
  | some bs => bs.lookup pc
  | none => none
end
section
/-! ===== the words that are handed on ===== -/
def zgw (w : Cond) : Bool := goodWord w || (match w with | .methodLinkNest _ _ _ _ => true | .arrayOver (.object _) => true | _ => false)
def zT : List Cond := lw_tbl.filter zgw
theorem zmem {w : Cond} (i : Nat) (h : lw_tbl[i]? = some w) (g : zgw w = true) : w ∈ zT := List.mem_filter.mpr ⟨List.mem_of_getElem? h, g⟩
/-! ===== what the tables say of each entry of the constant pools (printed by a program of mine) ===== -/
theorem znw_0 : ∀ (j k : Nat), ([2, 2, 0] : List Nat)[j]? = some k → ∃ ty, parseFieldDescriptor (TX0 j).2.2.1 = some ty ∧ ((k = 0 ∧ (ty = .int ∨ ty = .boolean)) ∨ (k = 1 ∧ ty = .long) ∨ (k = 2 ∧ ((∃ n, ty = .object n) ∨ ∃ t, ty = .array t))) := by
  intro j k h
  match j, h with
  | 0, h => cases h; exact ⟨_, tyX0_ok 0 (by decide), Or.inr (Or.inr ⟨rfl, Or.inl ⟨_, rfl⟩⟩)⟩
  | 1, h => cases h; exact ⟨_, tyX0_ok 1 (by decide), Or.inr (Or.inr ⟨rfl, Or.inl ⟨_, rfl⟩⟩)⟩
  | 2, h => cases h; exact ⟨_, tyX0_ok 2 (by decide), Or.inl ⟨rfl, Or.inl rfl⟩⟩
  | j + 3, h => simp at h
theorem znw_1 : ∀ (j k : Nat), ([2, 2] : List Nat)[j]? = some k → ∃ ty, parseFieldDescriptor (TX1 j).2.2.1 = some ty ∧ ((k = 0 ∧ (ty = .int ∨ ty = .boolean)) ∨ (k = 1 ∧ ty = .long) ∨ (k = 2 ∧ ((∃ n, ty = .object n) ∨ ∃ t, ty = .array t))) := by
  intro j k h
  match j, h with
  | 0, h => cases h; exact ⟨_, tyX1_ok 0 (by decide), Or.inr (Or.inr ⟨rfl, Or.inl ⟨_, rfl⟩⟩)⟩
  | 1, h => cases h; exact ⟨_, tyX1_ok 1 (by decide), Or.inr (Or.inr ⟨rfl, Or.inl ⟨_, rfl⟩⟩)⟩
  | j + 2, h => simp at h
theorem znw_2 : ∀ (j k : Nat), ([2, 0] : List Nat)[j]? = some k → ∃ ty, parseFieldDescriptor (TX2 j).2.2.1 = some ty ∧ ((k = 0 ∧ (ty = .int ∨ ty = .boolean)) ∨ (k = 1 ∧ ty = .long) ∨ (k = 2 ∧ ((∃ n, ty = .object n) ∨ ∃ t, ty = .array t))) := by
  intro j k h
  match j, h with
  | 0, h => cases h; exact ⟨_, tyX2_ok 0 (by decide), Or.inr (Or.inr ⟨rfl, Or.inl ⟨_, rfl⟩⟩)⟩
  | 1, h => cases h; exact ⟨_, tyX2_ok 1 (by decide), Or.inl ⟨rfl, Or.inl rfl⟩⟩
  | j + 2, h => simp at h
theorem znw_3 : ∀ (j k : Nat), ([2, 0] : List Nat)[j]? = some k → ∃ ty, parseFieldDescriptor (TX3 j).2.2.1 = some ty ∧ ((k = 0 ∧ (ty = .int ∨ ty = .boolean)) ∨ (k = 1 ∧ ty = .long) ∨ (k = 2 ∧ ((∃ n, ty = .object n) ∨ ∃ t, ty = .array t))) := by
  intro j k h
  match j, h with
  | 0, h => cases h; exact ⟨_, tyX3_ok 0 (by decide), Or.inr (Or.inr ⟨rfl, Or.inr ⟨_, rfl⟩⟩)⟩
  | 1, h => cases h; exact ⟨_, tyX3_ok 1 (by decide), Or.inl ⟨rfl, Or.inl rfl⟩⟩
  | j + 2, h => simp at h
theorem znw_4 : ∀ (j k : Nat), ([2, 2] : List Nat)[j]? = some k → ∃ ty, parseFieldDescriptor (TX4 j).2.2.1 = some ty ∧ ((k = 0 ∧ (ty = .int ∨ ty = .boolean)) ∨ (k = 1 ∧ ty = .long) ∨ (k = 2 ∧ ((∃ n, ty = .object n) ∨ ∃ t, ty = .array t))) := by
  intro j k h
  match j, h with
  | 0, h => cases h; exact ⟨_, tyX4_ok 0 (by decide), Or.inr (Or.inr ⟨rfl, Or.inr ⟨_, rfl⟩⟩)⟩
  | 1, h => cases h; exact ⟨_, tyX4_ok 1 (by decide), Or.inr (Or.inr ⟨rfl, Or.inl ⟨_, rfl⟩⟩)⟩
  | j + 2, h => simp at h
theorem znw_5 : ∀ (j k : Nat), ([2, 2, 2, 2] : List Nat)[j]? = some k → ∃ ty, parseFieldDescriptor (TX5 j).2.2.1 = some ty ∧ ((k = 0 ∧ (ty = .int ∨ ty = .boolean)) ∨ (k = 1 ∧ ty = .long) ∨ (k = 2 ∧ ((∃ n, ty = .object n) ∨ ∃ t, ty = .array t))) := by
  intro j k h
  match j, h with
  | 0, h => cases h; exact ⟨_, tyX5_ok 0 (by decide), Or.inr (Or.inr ⟨rfl, Or.inl ⟨_, rfl⟩⟩)⟩
  | 1, h => cases h; exact ⟨_, tyX5_ok 1 (by decide), Or.inr (Or.inr ⟨rfl, Or.inl ⟨_, rfl⟩⟩)⟩
  | 2, h => cases h; exact ⟨_, tyX5_ok 2 (by decide), Or.inr (Or.inr ⟨rfl, Or.inl ⟨_, rfl⟩⟩)⟩
  | 3, h => cases h; exact ⟨_, tyX5_ok 3 (by decide), Or.inr (Or.inr ⟨rfl, Or.inl ⟨_, rfl⟩⟩)⟩
  | j + 4, h => simp at h
theorem znw_6 : ∀ (j k : Nat), ([2, 2, 2, 0, 2, 2, 2, 2, 0, 2, 2, 2, 2, 2] : List Nat)[j]? = some k → ∃ ty, parseFieldDescriptor (TX6 j).2.2.1 = some ty ∧ ((k = 0 ∧ (ty = .int ∨ ty = .boolean)) ∨ (k = 1 ∧ ty = .long) ∨ (k = 2 ∧ ((∃ n, ty = .object n) ∨ ∃ t, ty = .array t))) := by
  intro j k h
  match j, h with
  | 0, h => cases h; exact ⟨_, tyX6_ok 0 (by decide), Or.inr (Or.inr ⟨rfl, Or.inl ⟨_, rfl⟩⟩)⟩
  | 1, h => cases h; exact ⟨_, tyX6_ok 1 (by decide), Or.inr (Or.inr ⟨rfl, Or.inl ⟨_, rfl⟩⟩)⟩
  | 2, h => cases h; exact ⟨_, tyX6_ok 2 (by decide), Or.inr (Or.inr ⟨rfl, Or.inr ⟨_, rfl⟩⟩)⟩
  | 3, h => cases h; exact ⟨_, tyX6_ok 3 (by decide), Or.inl ⟨rfl, Or.inl rfl⟩⟩
  | 4, h => cases h; exact ⟨_, tyX6_ok 4 (by decide), Or.inr (Or.inr ⟨rfl, Or.inl ⟨_, rfl⟩⟩)⟩
  | 5, h => cases h; exact ⟨_, tyX6_ok 5 (by decide), Or.inr (Or.inr ⟨rfl, Or.inl ⟨_, rfl⟩⟩)⟩
  | 6, h => cases h; exact ⟨_, tyX6_ok 6 (by decide), Or.inr (Or.inr ⟨rfl, Or.inl ⟨_, rfl⟩⟩)⟩
  | 7, h => cases h; exact ⟨_, tyX6_ok 7 (by decide), Or.inr (Or.inr ⟨rfl, Or.inl ⟨_, rfl⟩⟩)⟩
  | 8, h => cases h; exact ⟨_, tyX6_ok 8 (by decide), Or.inl ⟨rfl, Or.inr rfl⟩⟩
  | 9, h => cases h; exact ⟨_, tyX6_ok 9 (by decide), Or.inr (Or.inr ⟨rfl, Or.inl ⟨_, rfl⟩⟩)⟩
  | 10, h => cases h; exact ⟨_, tyX6_ok 10 (by decide), Or.inr (Or.inr ⟨rfl, Or.inl ⟨_, rfl⟩⟩)⟩
  | 11, h => cases h; exact ⟨_, tyX6_ok 11 (by decide), Or.inr (Or.inr ⟨rfl, Or.inl ⟨_, rfl⟩⟩)⟩
  | 12, h => cases h; exact ⟨_, tyX6_ok 12 (by decide), Or.inr (Or.inr ⟨rfl, Or.inl ⟨_, rfl⟩⟩)⟩
  | 13, h => cases h; exact ⟨_, tyX6_ok 13 (by decide), Or.inr (Or.inr ⟨rfl, Or.inl ⟨_, rfl⟩⟩)⟩
  | j + 14, h => simp at h
theorem znw_7 : ∀ (j k : Nat), ([2, 0, 0, 0, 2, 0, 2, 2, 0, 2, 0, 2, 2, 0, 2, 2, 0, 2, 0, 2, 2, 2, 0, 0, 2, 2, 1] : List Nat)[j]? = some k → ∃ ty, parseFieldDescriptor (TX7 j).2.2.1 = some ty ∧ ((k = 0 ∧ (ty = .int ∨ ty = .boolean)) ∨ (k = 1 ∧ ty = .long) ∨ (k = 2 ∧ ((∃ n, ty = .object n) ∨ ∃ t, ty = .array t))) := by
  intro j k h
  match j, h with
  | 0, h => cases h; exact ⟨_, tyX7_ok 0 (by decide), Or.inr (Or.inr ⟨rfl, Or.inr ⟨_, rfl⟩⟩)⟩
  | 1, h => cases h; exact ⟨_, tyX7_ok 1 (by decide), Or.inl ⟨rfl, Or.inl rfl⟩⟩
  | 2, h => cases h; exact ⟨_, tyX7_ok 2 (by decide), Or.inl ⟨rfl, Or.inl rfl⟩⟩
  | 3, h => cases h; exact ⟨_, tyX7_ok 3 (by decide), Or.inl ⟨rfl, Or.inl rfl⟩⟩
  | 4, h => cases h; exact ⟨_, tyX7_ok 4 (by decide), Or.inr (Or.inr ⟨rfl, Or.inr ⟨_, rfl⟩⟩)⟩
  | 5, h => cases h; exact ⟨_, tyX7_ok 5 (by decide), Or.inl ⟨rfl, Or.inl rfl⟩⟩
  | 6, h => cases h; exact ⟨_, tyX7_ok 6 (by decide), Or.inr (Or.inr ⟨rfl, Or.inr ⟨_, rfl⟩⟩)⟩
  | 7, h => cases h; exact ⟨_, tyX7_ok 7 (by decide), Or.inr (Or.inr ⟨rfl, Or.inr ⟨_, rfl⟩⟩)⟩
  | 8, h => cases h; exact ⟨_, tyX7_ok 8 (by decide), Or.inl ⟨rfl, Or.inl rfl⟩⟩
  | 9, h => cases h; exact ⟨_, tyX7_ok 9 (by decide), Or.inr (Or.inr ⟨rfl, Or.inr ⟨_, rfl⟩⟩)⟩
  | 10, h => cases h; exact ⟨_, tyX7_ok 10 (by decide), Or.inl ⟨rfl, Or.inl rfl⟩⟩
  | 11, h => cases h; exact ⟨_, tyX7_ok 11 (by decide), Or.inr (Or.inr ⟨rfl, Or.inr ⟨_, rfl⟩⟩)⟩
  | 12, h => cases h; exact ⟨_, tyX7_ok 12 (by decide), Or.inr (Or.inr ⟨rfl, Or.inr ⟨_, rfl⟩⟩)⟩
  | 13, h => cases h; exact ⟨_, tyX7_ok 13 (by decide), Or.inl ⟨rfl, Or.inl rfl⟩⟩
  | 14, h => cases h; exact ⟨_, tyX7_ok 14 (by decide), Or.inr (Or.inr ⟨rfl, Or.inr ⟨_, rfl⟩⟩)⟩
  | 15, h => cases h; exact ⟨_, tyX7_ok 15 (by decide), Or.inr (Or.inr ⟨rfl, Or.inr ⟨_, rfl⟩⟩)⟩
  | 16, h => cases h; exact ⟨_, tyX7_ok 16 (by decide), Or.inl ⟨rfl, Or.inl rfl⟩⟩
  | 17, h => cases h; exact ⟨_, tyX7_ok 17 (by decide), Or.inr (Or.inr ⟨rfl, Or.inr ⟨_, rfl⟩⟩)⟩
  | 18, h => cases h; exact ⟨_, tyX7_ok 18 (by decide), Or.inl ⟨rfl, Or.inl rfl⟩⟩
  | 19, h => cases h; exact ⟨_, tyX7_ok 19 (by decide), Or.inr (Or.inr ⟨rfl, Or.inr ⟨_, rfl⟩⟩)⟩
  | 20, h => cases h; exact ⟨_, tyX7_ok 20 (by decide), Or.inr (Or.inr ⟨rfl, Or.inr ⟨_, rfl⟩⟩)⟩
  | 21, h => cases h; exact ⟨_, tyX7_ok 21 (by decide), Or.inr (Or.inr ⟨rfl, Or.inr ⟨_, rfl⟩⟩)⟩
  | 22, h => cases h; exact ⟨_, tyX7_ok 22 (by decide), Or.inl ⟨rfl, Or.inl rfl⟩⟩
  | 23, h => cases h; exact ⟨_, tyX7_ok 23 (by decide), Or.inl ⟨rfl, Or.inl rfl⟩⟩
  | 24, h => cases h; exact ⟨_, tyX7_ok 24 (by decide), Or.inr (Or.inr ⟨rfl, Or.inr ⟨_, rfl⟩⟩)⟩
  | 25, h => cases h; exact ⟨_, tyX7_ok 25 (by decide), Or.inr (Or.inr ⟨rfl, Or.inr ⟨_, rfl⟩⟩)⟩
  | 26, h => cases h; exact ⟨_, tyX7_ok 26 (by decide), Or.inr (Or.inl ⟨rfl, rfl⟩)⟩
  | j + 27, h => simp at h
/-- MindReaders$Code -/
def zcp_0 : List (Nat × List Nat) := [(3, [4]), (9, [5, 4, 2, 2]), (11, [3, 185, 2, 4, 2, 42, 4]), (14, [0, 0, 0, 2, 1]), (20, [0, 0, 1, 2, 1]), (23, [0, 0, 2, 0, 0]), (27, [1, 186, 1, 3, 0, 0, 4]), (31, [1, 171, 0, 1, 0, 0, 3]), (36, [1, 172, 1, 2, 0, 0, 3]), (40, [2, 42, 1, 1, 0, 0]), (43, [1, 149, 1, 2, 1, 22, 0]), (45, [1, 174, 1, 2, 0, 0, 3]), (49, [1, 150, 1, 2, 1, 22, 0]), (51, [1, 198, 3, 7, 2, 43, 5]), (57, [1, 178, 1, 2, 2, 43, 3]), (61, [1, 179, 1, 3, 1, 21, 3]), (64, [1, 180, 1, 4, 1, 21, 3])]
theorem zq_0_3 : zcpOK zmt zcls zT "MindReaders$Code" 3 [4] := ⟨zmem 173 (by decide +kernel) rfl, zmem 78 (by decide +kernel) rfl, zmem 79 (by decide +kernel) rfl⟩
theorem zq_0_9 : zcpOK zmt zcls zT "MindReaders$Code" 9 [5, 4, 2, 2] := ⟨RX4, TX4, 2, rfl, rfl, zmem 174 (by decide +kernel) rfl, znw_4⟩
theorem zq_0_11 : zcpOK zmt zcls zT "MindReaders$Code" 11 [3, 185, 2, 4, 2, 42, 4] := ⟨⟨"MindReaders$Rows", "<init>", "(II)V"⟩, prog_6_method_1_code, TX4, 2, by decide, rfl, by decide +kernel, rfl, Or.inl (zmem 175 (by decide +kernel) rfl), zmem 131 (by decide +kernel) rfl, rfl⟩
theorem zq_0_14 : zcpOK zmt zcls zT "MindReaders$Code" 14 [0, 0, 0, 2, 1] := ⟨TX0, 3, rfl, by decide, rfl, zmem 176 (by decide +kernel) rfl, ⟨_, tyX0_ok 0 (by decide), Or.inl ⟨_, rfl⟩⟩, fun h => absurd h (by decide)⟩
theorem zq_0_20 : zcpOK zmt zcls zT "MindReaders$Code" 20 [0, 0, 1, 2, 1] := ⟨TX0, 3, rfl, by decide, rfl, zmem 177 (by decide +kernel) rfl, ⟨_, tyX0_ok 1 (by decide), Or.inl ⟨_, rfl⟩⟩, fun h => absurd h (by decide)⟩
theorem zq_0_23 : zcpOK zmt zcls zT "MindReaders$Code" 23 [0, 0, 2, 0, 0] := ⟨TX0, 3, rfl, by decide, rfl, zmem 178 (by decide +kernel) rfl, ⟨_, tyX0_ok 2 (by decide), rfl⟩, fun _ => rfl⟩
theorem zq_0_27 : zcpOK zmt zcls zT "MindReaders$Code" 27 [1, 186, 1, 3, 0, 0, 4] := ⟨⟨"MindReaders$Rows", "row", "(I)LMindReaders$Row;"⟩, prog_6_method_2_code, some (.object "MindReaders$Row"), TX4, 2, by decide, rfl, by decide +kernel, rfl, zmem 286 (by decide +kernel) rfl, zmem 287 (by decide +kernel) rfl, zmem 288 (by decide +kernel) rfl⟩
theorem zq_0_31 : zcpOK zmt zcls zT "MindReaders$Code" 31 [1, 171, 0, 1, 0, 0, 3] := ⟨⟨"MindReaders$Row", "size", "()I"⟩, prog_5_method_2_code, some .int, TX3, 2, by decide, rfl, by decide +kernel, rfl, zmem 279 (by decide +kernel) rfl, zmem 241 (by decide +kernel) rfl, zmem 242 (by decide +kernel) rfl⟩
theorem zq_0_36 : zcpOK zmt zcls zT "MindReaders$Code" 36 [1, 172, 1, 2, 0, 0, 3] := ⟨⟨"MindReaders$Row", "at", "(I)I"⟩, prog_5_method_3_code, some .int, TX3, 2, by decide, rfl, by decide +kernel, rfl, zmem 280 (by decide +kernel) rfl, zmem 265 (by decide +kernel) rfl, zmem 266 (by decide +kernel) rfl⟩
theorem zq_0_40 : zcpOK zmt zcls zT "MindReaders$Code" 40 [2, 42, 1, 1, 0, 0] := ⟨⟨"MindReaders", "signalOf", "(I)I"⟩, prog_1_method_42_code, some .int, by decide, rfl, by decide +kernel, Or.inr ⟨"MindReaders", zmem 281 (by decide +kernel) rfl⟩, zmem 269 (by decide +kernel) rfl⟩
theorem zq_0_43 : zcpOK zmt zcls zT "MindReaders$Code" 43 [1, 149, 1, 2, 1, 22, 0] := ⟨⟨"MindReaders$Code", "spoken", "(I)LMindReaders$Row;"⟩, prog_2_method_3_code, some (.object "MindReaders$Row"), TX0, 3, by decide, rfl, by decide +kernel, rfl, zmem 282 (by decide +kernel) rfl, zmem 283 (by decide +kernel) rfl, zmem 284 (by decide +kernel) rfl⟩
theorem zq_0_45 : zcpOK zmt zcls zT "MindReaders$Code" 45 [1, 174, 1, 2, 0, 0, 3] := ⟨⟨"MindReaders$Row", "add", "(I)V"⟩, prog_5_method_5_code, none, TX3, 2, by decide, rfl, by decide +kernel, rfl, zmem 290 (by decide +kernel) rfl, zmem 245 (by decide +kernel) rfl, zmem 246 (by decide +kernel) rfl⟩
theorem zq_0_49 : zcpOK zmt zcls zT "MindReaders$Code" 49 [1, 150, 1, 2, 1, 22, 0] := ⟨⟨"MindReaders$Code", "plain", "(I)LMindReaders$Row;"⟩, prog_2_method_4_code, some (.object "MindReaders$Row"), TX0, 3, by decide, rfl, by decide +kernel, rfl, zmem 295 (by decide +kernel) rfl, zmem 296 (by decide +kernel) rfl, zmem 297 (by decide +kernel) rfl⟩
theorem zq_0_51 : zcpOK zmt zcls zT "MindReaders$Code" 51 [1, 198, 3, 7, 2, 43, 5] := ⟨⟨"MindReaders$Signals", "makePlain", "(LMindReaders$Row;ILMindReaders$Row;)V"⟩, prog_7_method_12_code, none, TX5, 4, by decide, rfl, by decide +kernel, rfl, zmem 299 (by decide +kernel) rfl, zmem 300 (by decide +kernel) rfl, zmem 301 (by decide +kernel) rfl⟩
theorem zq_0_57 : zcpOK zmt zcls zT "MindReaders$Code" 57 [1, 178, 1, 2, 2, 43, 3] := ⟨⟨"MindReaders$Row", "isLike", "(LMindReaders$Row;)Z"⟩, prog_5_method_9_code, some .boolean, TX3, 2, by decide, rfl, by decide +kernel, rfl, zmem 417 (by decide +kernel) rfl, zmem 418 (by decide +kernel) rfl, zmem 419 (by decide +kernel) rfl⟩
theorem zq_0_61 : zcpOK zmt zcls zT "MindReaders$Code" 61 [1, 179, 1, 3, 1, 21, 3] := ⟨⟨"MindReaders$Row", "isStartOf", "(LMindReaders$Row;)Z"⟩, prog_5_method_10_code, some .boolean, TX3, 2, by decide, rfl, by decide +kernel, rfl, zmem 446 (by decide +kernel) rfl, zmem 423 (by decide +kernel) rfl, zmem 424 (by decide +kernel) rfl⟩
theorem zq_0_64 : zcpOK zmt zcls zT "MindReaders$Code" 64 [1, 180, 1, 4, 1, 21, 3] := ⟨⟨"MindReaders$Row", "placesApart", "(LMindReaders$Row;)I"⟩, prog_5_method_11_code, some .int, TX3, 2, by decide, rfl, by decide +kernel, rfl, zmem 549 (by decide +kernel) rfl, zmem 550 (by decide +kernel) rfl, zmem 551 (by decide +kernel) rfl⟩
theorem zcp_0_ok : ∀ q ∈ zcp_0, zcpOK zmt zcls zT "MindReaders$Code" q.1 q.2 := List.forall_mem_cons.mpr ⟨zq_0_3, List.forall_mem_cons.mpr ⟨zq_0_9, List.forall_mem_cons.mpr ⟨zq_0_11, List.forall_mem_cons.mpr ⟨zq_0_14, List.forall_mem_cons.mpr ⟨zq_0_20, List.forall_mem_cons.mpr ⟨zq_0_23, List.forall_mem_cons.mpr ⟨zq_0_27, List.forall_mem_cons.mpr ⟨zq_0_31, List.forall_mem_cons.mpr ⟨zq_0_36, List.forall_mem_cons.mpr ⟨zq_0_40, List.forall_mem_cons.mpr ⟨zq_0_43, List.forall_mem_cons.mpr ⟨zq_0_45, List.forall_mem_cons.mpr ⟨zq_0_49, List.forall_mem_cons.mpr ⟨zq_0_51, List.forall_mem_cons.mpr ⟨zq_0_57, List.forall_mem_cons.mpr ⟨zq_0_61, List.forall_mem_cons.mpr ⟨zq_0_64, fun _ h => absurd h List.not_mem_nil⟩⟩⟩⟩⟩⟩⟩⟩⟩⟩⟩⟩⟩⟩⟩⟩⟩
/-- MindReaders$Notes -/
def zcp_1 : List (Nat × List Nat) := [(3, [4]), (9, [5, 3, 2, 0]), (11, [3, 170, 1, 2, 1, 21, 3]), (14, [0, 1, 0, 2, 1]), (20, [5, 4, 2, 2]), (22, [3, 185, 2, 4, 2, 42, 4]), (25, [0, 1, 1, 2, 1]), (29, [1, 171, 0, 1, 0, 0, 3]), (33, [1, 172, 1, 2, 0, 0, 3]), (37, [1, 186, 1, 3, 0, 0, 4]), (41, [1, 177, 1, 3, 1, 21, 3]), (45, [1, 174, 1, 2, 0, 0, 3]), (48, [1, 176, 0, 1, 0, 0, 3]), (51, [1, 163, 0, 1, 1, 20, 1]), (52, [1, 159, 0, 1, 1, 20, 1]), (53, [1, 160, 1, 2, 1, 21, 1]), (56, [1, 161, 1, 2, 1, 22, 1]), (59, [1, 162, 2, 3, 2, 43, 1])]
theorem zq_1_3 : zcpOK zmt zcls zT "MindReaders$Notes" 3 [4] := ⟨zmem 125 (by decide +kernel) rfl, zmem 78 (by decide +kernel) rfl, zmem 79 (by decide +kernel) rfl⟩
theorem zq_1_9 : zcpOK zmt zcls zT "MindReaders$Notes" 9 [5, 3, 2, 0] := ⟨RX3, TX3, 2, rfl, rfl, zmem 126 (by decide +kernel) rfl, znw_3⟩
theorem zq_1_11 : zcpOK zmt zcls zT "MindReaders$Notes" 11 [3, 170, 1, 2, 1, 21, 3] := ⟨⟨"MindReaders$Row", "<init>", "(I)V"⟩, prog_5_method_1_code, TX3, 2, by decide, rfl, by decide +kernel, rfl, Or.inl (zmem 127 (by decide +kernel) rfl), zmem 89 (by decide +kernel) rfl, rfl⟩
theorem zq_1_14 : zcpOK zmt zcls zT "MindReaders$Notes" 14 [0, 1, 0, 2, 1] := ⟨TX1, 2, rfl, by decide, rfl, zmem 145 (by decide +kernel) rfl, ⟨_, tyX1_ok 0 (by decide), Or.inl ⟨_, rfl⟩⟩, fun h => absurd h (by decide)⟩
theorem zq_1_20 : zcpOK zmt zcls zT "MindReaders$Notes" 20 [5, 4, 2, 2] := ⟨RX4, TX4, 2, rfl, rfl, zmem 128 (by decide +kernel) rfl, znw_4⟩
theorem zq_1_22 : zcpOK zmt zcls zT "MindReaders$Notes" 22 [3, 185, 2, 4, 2, 42, 4] := ⟨⟨"MindReaders$Rows", "<init>", "(II)V"⟩, prog_6_method_1_code, TX4, 2, by decide, rfl, by decide +kernel, rfl, Or.inl (zmem 130 (by decide +kernel) rfl), zmem 131 (by decide +kernel) rfl, rfl⟩
theorem zq_1_25 : zcpOK zmt zcls zT "MindReaders$Notes" 25 [0, 1, 1, 2, 1] := ⟨TX1, 2, rfl, by decide, rfl, zmem 146 (by decide +kernel) rfl, ⟨_, tyX1_ok 1 (by decide), Or.inl ⟨_, rfl⟩⟩, fun h => absurd h (by decide)⟩
theorem zq_1_29 : zcpOK zmt zcls zT "MindReaders$Notes" 29 [1, 171, 0, 1, 0, 0, 3] := ⟨⟨"MindReaders$Row", "size", "()I"⟩, prog_5_method_2_code, some .int, TX3, 2, by decide, rfl, by decide +kernel, rfl, zmem 595 (by decide +kernel) rfl, zmem 241 (by decide +kernel) rfl, zmem 242 (by decide +kernel) rfl⟩
theorem zq_1_33 : zcpOK zmt zcls zT "MindReaders$Notes" 33 [1, 172, 1, 2, 0, 0, 3] := ⟨⟨"MindReaders$Row", "at", "(I)I"⟩, prog_5_method_3_code, some .int, TX3, 2, by decide, rfl, by decide +kernel, rfl, zmem 624 (by decide +kernel) rfl, zmem 265 (by decide +kernel) rfl, zmem 266 (by decide +kernel) rfl⟩
theorem zq_1_37 : zcpOK zmt zcls zT "MindReaders$Notes" 37 [1, 186, 1, 3, 0, 0, 4] := ⟨⟨"MindReaders$Rows", "row", "(I)LMindReaders$Row;"⟩, prog_6_method_2_code, some (.object "MindReaders$Row"), TX4, 2, by decide, rfl, by decide +kernel, rfl, zmem 600 (by decide +kernel) rfl, zmem 287 (by decide +kernel) rfl, zmem 288 (by decide +kernel) rfl⟩
theorem zq_1_41 : zcpOK zmt zcls zT "MindReaders$Notes" 41 [1, 177, 1, 3, 1, 21, 3] := ⟨⟨"MindReaders$Row", "copyOf", "(LMindReaders$Row;)V"⟩, prog_5_method_8_code, none, TX3, 2, by decide, rfl, by decide +kernel, rfl, zmem 601 (by decide +kernel) rfl, zmem 530 (by decide +kernel) rfl, zmem 531 (by decide +kernel) rfl⟩
theorem zq_1_45 : zcpOK zmt zcls zT "MindReaders$Notes" 45 [1, 174, 1, 2, 0, 0, 3] := ⟨⟨"MindReaders$Row", "add", "(I)V"⟩, prog_5_method_5_code, none, TX3, 2, by decide, rfl, by decide +kernel, rfl, zmem 602 (by decide +kernel) rfl, zmem 245 (by decide +kernel) rfl, zmem 246 (by decide +kernel) rfl⟩
theorem zq_1_48 : zcpOK zmt zcls zT "MindReaders$Notes" 48 [1, 176, 0, 1, 0, 0, 3] := ⟨⟨"MindReaders$Row", "wipe", "()V"⟩, prog_5_method_7_code, none, TX3, 2, by decide, rfl, by decide +kernel, rfl, zmem 611 (by decide +kernel) rfl, zmem 253 (by decide +kernel) rfl, zmem 254 (by decide +kernel) rfl⟩
theorem zq_1_51 : zcpOK zmt zcls zT "MindReaders$Notes" 51 [1, 163, 0, 1, 1, 20, 1] := ⟨⟨"MindReaders$Notes", "wipe", "()V"⟩, prog_3_method_6_code, none, TX1, 2, by decide, rfl, by decide +kernel, rfl, zmem 688 (by decide +kernel) rfl, zmem 608 (by decide +kernel) rfl, zmem 609 (by decide +kernel) rfl⟩
theorem zq_1_52 : zcpOK zmt zcls zT "MindReaders$Notes" 52 [1, 159, 0, 1, 1, 20, 1] := ⟨⟨"MindReaders$Notes", "size", "()I"⟩, prog_3_method_2_code, some .int, TX1, 2, by decide, rfl, by decide +kernel, rfl, zmem 689 (by decide +kernel) rfl, zmem 592 (by decide +kernel) rfl, zmem 593 (by decide +kernel) rfl⟩
theorem zq_1_53 : zcpOK zmt zcls zT "MindReaders$Notes" 53 [1, 160, 1, 2, 1, 21, 1] := ⟨⟨"MindReaders$Notes", "thingOf", "(I)I"⟩, prog_3_method_3_code, some .int, TX1, 2, by decide, rfl, by decide +kernel, rfl, zmem 690 (by decide +kernel) rfl, zmem 621 (by decide +kernel) rfl, zmem 622 (by decide +kernel) rfl⟩
theorem zq_1_56 : zcpOK zmt zcls zT "MindReaders$Notes" 56 [1, 161, 1, 2, 1, 22, 1] := ⟨⟨"MindReaders$Notes", "rowOf", "(I)LMindReaders$Row;"⟩, prog_3_method_4_code, some (.object "MindReaders$Row"), TX1, 2, by decide, rfl, by decide +kernel, rfl, zmem 691 (by decide +kernel) rfl, zmem 626 (by decide +kernel) rfl, zmem 627 (by decide +kernel) rfl⟩
theorem zq_1_59 : zcpOK zmt zcls zT "MindReaders$Notes" 59 [1, 162, 2, 3, 2, 43, 1] := ⟨⟨"MindReaders$Notes", "add", "(ILMindReaders$Row;)V"⟩, prog_3_method_5_code, none, TX1, 2, by decide, rfl, by decide +kernel, rfl, zmem 692 (by decide +kernel) rfl, zmem 597 (by decide +kernel) rfl, zmem 598 (by decide +kernel) rfl⟩
theorem zcp_1_ok : ∀ q ∈ zcp_1, zcpOK zmt zcls zT "MindReaders$Notes" q.1 q.2 := List.forall_mem_cons.mpr ⟨zq_1_3, List.forall_mem_cons.mpr ⟨zq_1_9, List.forall_mem_cons.mpr ⟨zq_1_11, List.forall_mem_cons.mpr ⟨zq_1_14, List.forall_mem_cons.mpr ⟨zq_1_20, List.forall_mem_cons.mpr ⟨zq_1_22, List.forall_mem_cons.mpr ⟨zq_1_25, List.forall_mem_cons.mpr ⟨zq_1_29, List.forall_mem_cons.mpr ⟨zq_1_33, List.forall_mem_cons.mpr ⟨zq_1_37, List.forall_mem_cons.mpr ⟨zq_1_41, List.forall_mem_cons.mpr ⟨zq_1_45, List.forall_mem_cons.mpr ⟨zq_1_48, List.forall_mem_cons.mpr ⟨zq_1_51, List.forall_mem_cons.mpr ⟨zq_1_52, List.forall_mem_cons.mpr ⟨zq_1_53, List.forall_mem_cons.mpr ⟨zq_1_56, List.forall_mem_cons.mpr ⟨zq_1_59, fun _ h => absurd h List.not_mem_nil⟩⟩⟩⟩⟩⟩⟩⟩⟩⟩⟩⟩⟩⟩⟩⟩⟩⟩
/-- MindReaders$Readings -/
def zcp_2 : List (Nat × List Nat) := [(3, [4]), (9, [5, 3, 2, 0]), (13, [3, 170, 1, 2, 1, 21, 3]), (16, [0, 2, 0, 2, 1]), (20, [7, 0, 1000000]), (21, [0, 2, 1, 0, 0]), (25, [1, 176, 0, 1, 0, 0, 3]), (28, [1, 174, 1, 2, 0, 0, 3]), (31, [1, 148, 0, 1, 0, 0, 0]), (37, [1, 150, 1, 2, 1, 22, 0]), (41, [1, 171, 0, 1, 0, 0, 3]), (42, [1, 168, 5, 10, 2, 46, 2]), (46, [1, 167, 1, 6, 3, 75, 2]), (50, [1, 172, 1, 2, 0, 0, 3]), (54, [2, 201, 2, 2, 0, 0]), (60, [1, 169, 3, 5, 1, 22, 2]), (64, [1, 173, 2, 3, 0, 0, 3])]
theorem zq_2_3 : zcpOK zmt zcls zT "MindReaders$Readings" 3 [4] := ⟨zmem 159 (by decide +kernel) rfl, zmem 78 (by decide +kernel) rfl, zmem 79 (by decide +kernel) rfl⟩
theorem zq_2_9 : zcpOK zmt zcls zT "MindReaders$Readings" 9 [5, 3, 2, 0] := ⟨RX3, TX3, 2, rfl, rfl, zmem 160 (by decide +kernel) rfl, znw_3⟩
theorem zq_2_13 : zcpOK zmt zcls zT "MindReaders$Readings" 13 [3, 170, 1, 2, 1, 21, 3] := ⟨⟨"MindReaders$Row", "<init>", "(I)V"⟩, prog_5_method_1_code, TX3, 2, by decide, rfl, by decide +kernel, rfl, Or.inl (zmem 161 (by decide +kernel) rfl), zmem 89 (by decide +kernel) rfl, rfl⟩
theorem zq_2_16 : zcpOK zmt zcls zT "MindReaders$Readings" 16 [0, 2, 0, 2, 1] := ⟨TX2, 2, rfl, by decide, rfl, zmem 162 (by decide +kernel) rfl, ⟨_, tyX2_ok 0 (by decide), Or.inl ⟨_, rfl⟩⟩, fun h => absurd h (by decide)⟩
theorem zq_2_20 : zcpOK zmt zcls zT "MindReaders$Readings" 20 [7, 0, 1000000] := zmem 455 (by decide +kernel) rfl
theorem zq_2_21 : zcpOK zmt zcls zT "MindReaders$Readings" 21 [0, 2, 1, 0, 0] := ⟨TX2, 2, rfl, by decide, rfl, zmem 163 (by decide +kernel) rfl, ⟨_, tyX2_ok 1 (by decide), rfl⟩, fun _ => rfl⟩
theorem zq_2_25 : zcpOK zmt zcls zT "MindReaders$Readings" 25 [1, 176, 0, 1, 0, 0, 3] := ⟨⟨"MindReaders$Row", "wipe", "()V"⟩, prog_5_method_7_code, none, TX3, 2, by decide, rfl, by decide +kernel, rfl, zmem 456 (by decide +kernel) rfl, zmem 253 (by decide +kernel) rfl, zmem 254 (by decide +kernel) rfl⟩
theorem zq_2_28 : zcpOK zmt zcls zT "MindReaders$Readings" 28 [1, 174, 1, 2, 0, 0, 3] := ⟨⟨"MindReaders$Row", "add", "(I)V"⟩, prog_5_method_5_code, none, TX3, 2, by decide, rfl, by decide +kernel, rfl, zmem 457 (by decide +kernel) rfl, zmem 245 (by decide +kernel) rfl, zmem 246 (by decide +kernel) rfl⟩
theorem zq_2_31 : zcpOK zmt zcls zT "MindReaders$Readings" 31 [1, 148, 0, 1, 0, 0, 0] := ⟨⟨"MindReaders$Code", "size", "()I"⟩, prog_2_method_2_code, some .int, TX0, 3, by decide, rfl, by decide +kernel, rfl, zmem 458 (by decide +kernel) rfl, zmem 386 (by decide +kernel) rfl, zmem 387 (by decide +kernel) rfl⟩
theorem zq_2_37 : zcpOK zmt zcls zT "MindReaders$Readings" 37 [1, 150, 1, 2, 1, 22, 0] := ⟨⟨"MindReaders$Code", "plain", "(I)LMindReaders$Row;"⟩, prog_2_method_4_code, some (.object "MindReaders$Row"), TX0, 3, by decide, rfl, by decide +kernel, rfl, zmem 459 (by decide +kernel) rfl, zmem 296 (by decide +kernel) rfl, zmem 297 (by decide +kernel) rfl⟩
theorem zq_2_41 : zcpOK zmt zcls zT "MindReaders$Readings" 41 [1, 171, 0, 1, 0, 0, 3] := ⟨⟨"MindReaders$Row", "size", "()I"⟩, prog_5_method_2_code, some .int, TX3, 2, by decide, rfl, by decide +kernel, rfl, zmem 460 (by decide +kernel) rfl, zmem 241 (by decide +kernel) rfl, zmem 242 (by decide +kernel) rfl⟩
theorem zq_2_42 : zcpOK zmt zcls zT "MindReaders$Readings" 42 [1, 168, 5, 10, 2, 46, 2] := ⟨⟨"MindReaders$Readings", "meet", "(LMindReaders$Code;IIII)Z"⟩, prog_4_method_4_code, some .boolean, TX2, 2, by decide, rfl, by decide +kernel, rfl, zmem 461 (by decide +kernel) rfl, zmem 463 (by decide +kernel) rfl, zmem 6 (by decide +kernel) rfl⟩
theorem zq_2_46 : zcpOK zmt zcls zT "MindReaders$Readings" 46 [1, 167, 1, 6, 3, 75, 2] := ⟨⟨"MindReaders$Readings", "goOn", "(LMindReaders$Code;)Z"⟩, prog_4_method_3_code, some .boolean, TX2, 2, by decide, rfl, by decide +kernel, rfl, zmem 474 (by decide +kernel) rfl, zmem 476 (by decide +kernel) rfl, zmem 8 (by decide +kernel) rfl⟩
theorem zq_2_50 : zcpOK zmt zcls zT "MindReaders$Readings" 50 [1, 172, 1, 2, 0, 0, 3] := ⟨⟨"MindReaders$Row", "at", "(I)I"⟩, prog_5_method_3_code, some .int, TX3, 2, by decide, rfl, by decide +kernel, rfl, zmem 465 (by decide +kernel) rfl, zmem 265 (by decide +kernel) rfl, zmem 266 (by decide +kernel) rfl⟩
theorem zq_2_54 : zcpOK zmt zcls zT "MindReaders$Readings" 54 [2, 201, 2, 2, 0, 0] := ⟨⟨"java/lang/Math", "min", "(II)I"⟩, prog_11_method_69_code, some .int, by decide, rfl, by decide +kernel, Or.inl (zmem 466 (by decide +kernel) rfl), zmem 467 (by decide +kernel) rfl⟩
theorem zq_2_60 : zcpOK zmt zcls zT "MindReaders$Readings" 60 [1, 169, 3, 5, 1, 22, 2] := ⟨⟨"MindReaders$Readings", "comeTo", "(III)Z"⟩, prog_4_method_5_code, some .boolean, TX2, 2, by decide, rfl, by decide +kernel, rfl, zmem 469 (by decide +kernel) rfl, zmem 471 (by decide +kernel) rfl, zmem 7 (by decide +kernel) rfl⟩
theorem zq_2_64 : zcpOK zmt zcls zT "MindReaders$Readings" 64 [1, 173, 2, 3, 0, 0, 3] := ⟨⟨"MindReaders$Row", "set", "(II)V"⟩, prog_5_method_4_code, none, TX3, 2, by decide, rfl, by decide +kernel, rfl, zmem 473 (by decide +kernel) rfl, zmem 378 (by decide +kernel) rfl, zmem 379 (by decide +kernel) rfl⟩
theorem zcp_2_ok : ∀ q ∈ zcp_2, zcpOK zmt zcls zT "MindReaders$Readings" q.1 q.2 := List.forall_mem_cons.mpr ⟨zq_2_3, List.forall_mem_cons.mpr ⟨zq_2_9, List.forall_mem_cons.mpr ⟨zq_2_13, List.forall_mem_cons.mpr ⟨zq_2_16, List.forall_mem_cons.mpr ⟨zq_2_20, List.forall_mem_cons.mpr ⟨zq_2_21, List.forall_mem_cons.mpr ⟨zq_2_25, List.forall_mem_cons.mpr ⟨zq_2_28, List.forall_mem_cons.mpr ⟨zq_2_31, List.forall_mem_cons.mpr ⟨zq_2_37, List.forall_mem_cons.mpr ⟨zq_2_41, List.forall_mem_cons.mpr ⟨zq_2_42, List.forall_mem_cons.mpr ⟨zq_2_46, List.forall_mem_cons.mpr ⟨zq_2_50, List.forall_mem_cons.mpr ⟨zq_2_54, List.forall_mem_cons.mpr ⟨zq_2_60, List.forall_mem_cons.mpr ⟨zq_2_64, fun _ h => absurd h List.not_mem_nil⟩⟩⟩⟩⟩⟩⟩⟩⟩⟩⟩⟩⟩⟩⟩⟩⟩
/-- MindReaders$Row -/
def zcp_3 : List (Nat × List Nat) := [(3, [4]), (9, [2, 200, 2, 2, 0, 0]), (15, [0, 3, 0, 2, 1]), (21, [0, 3, 1, 0, 0]), (25, [1, 176, 0, 1, 0, 0, 3]), (28, [1, 171, 0, 1, 0, 0, 3]), (31, [1, 172, 1, 2, 0, 0, 3]), (35, [1, 174, 1, 2, 0, 0, 3]), (39, [1, 179, 1, 3, 1, 21, 3]), (43, [1, 173, 2, 3, 0, 0, 3]), (47, [1, 175, 0, 1, 0, 0, 3])]
theorem zq_3_3 : zcpOK zmt zcls zT "MindReaders$Row" 3 [4] := ⟨zmem 91 (by decide +kernel) rfl, zmem 78 (by decide +kernel) rfl, zmem 79 (by decide +kernel) rfl⟩
theorem zq_3_9 : zcpOK zmt zcls zT "MindReaders$Row" 9 [2, 200, 2, 2, 0, 0] := ⟨⟨"java/lang/Math", "max", "(II)I"⟩, prog_11_method_65_code, some .int, by decide, rfl, by decide +kernel, Or.inl (zmem 92 (by decide +kernel) rfl), zmem 93 (by decide +kernel) rfl⟩
theorem zq_3_15 : zcpOK zmt zcls zT "MindReaders$Row" 15 [0, 3, 0, 2, 1] := ⟨TX3, 2, rfl, by decide, rfl, zmem 95 (by decide +kernel) rfl, ⟨_, tyX3_ok 0 (by decide), Or.inr ⟨_, rfl⟩⟩, fun h => absurd h (by decide)⟩
theorem zq_3_21 : zcpOK zmt zcls zT "MindReaders$Row" 21 [0, 3, 1, 0, 0] := ⟨TX3, 2, rfl, by decide, rfl, zmem 96 (by decide +kernel) rfl, ⟨_, tyX3_ok 1 (by decide), rfl⟩, fun _ => rfl⟩
theorem zq_3_25 : zcpOK zmt zcls zT "MindReaders$Row" 25 [1, 176, 0, 1, 0, 0, 3] := ⟨⟨"MindReaders$Row", "wipe", "()V"⟩, prog_5_method_7_code, none, TX3, 2, by decide, rfl, by decide +kernel, rfl, zmem 533 (by decide +kernel) rfl, zmem 253 (by decide +kernel) rfl, zmem 254 (by decide +kernel) rfl⟩
theorem zq_3_28 : zcpOK zmt zcls zT "MindReaders$Row" 28 [1, 171, 0, 1, 0, 0, 3] := ⟨⟨"MindReaders$Row", "size", "()I"⟩, prog_5_method_2_code, some .int, TX3, 2, by decide, rfl, by decide +kernel, rfl, zmem 421 (by decide +kernel) rfl, zmem 241 (by decide +kernel) rfl, zmem 242 (by decide +kernel) rfl⟩
theorem zq_3_31 : zcpOK zmt zcls zT "MindReaders$Row" 31 [1, 172, 1, 2, 0, 0, 3] := ⟨⟨"MindReaders$Row", "at", "(I)I"⟩, prog_5_method_3_code, some .int, TX3, 2, by decide, rfl, by decide +kernel, rfl, zmem 426 (by decide +kernel) rfl, zmem 265 (by decide +kernel) rfl, zmem 266 (by decide +kernel) rfl⟩
theorem zq_3_35 : zcpOK zmt zcls zT "MindReaders$Row" 35 [1, 174, 1, 2, 0, 0, 3] := ⟨⟨"MindReaders$Row", "add", "(I)V"⟩, prog_5_method_5_code, none, TX3, 2, by decide, rfl, by decide +kernel, rfl, zmem 534 (by decide +kernel) rfl, zmem 245 (by decide +kernel) rfl, zmem 246 (by decide +kernel) rfl⟩
theorem zq_3_39 : zcpOK zmt zcls zT "MindReaders$Row" 39 [1, 179, 1, 3, 1, 21, 3] := ⟨⟨"MindReaders$Row", "isStartOf", "(LMindReaders$Row;)Z"⟩, prog_5_method_10_code, some .boolean, TX3, 2, by decide, rfl, by decide +kernel, rfl, zmem 422 (by decide +kernel) rfl, zmem 423 (by decide +kernel) rfl, zmem 424 (by decide +kernel) rfl⟩
theorem zq_3_43 : zcpOK zmt zcls zT "MindReaders$Row" 43 [1, 173, 2, 3, 0, 0, 3] := ⟨⟨"MindReaders$Row", "set", "(II)V"⟩, prog_5_method_4_code, none, TX3, 2, by decide, rfl, by decide +kernel, rfl, zmem 539 (by decide +kernel) rfl, zmem 378 (by decide +kernel) rfl, zmem 379 (by decide +kernel) rfl⟩
theorem zq_3_47 : zcpOK zmt zcls zT "MindReaders$Row" 47 [1, 175, 0, 1, 0, 0, 3] := ⟨⟨"MindReaders$Row", "dropLast", "()V"⟩, prog_5_method_6_code, none, TX3, 2, by decide, rfl, by decide +kernel, rfl, zmem 540 (by decide +kernel) rfl, zmem 316 (by decide +kernel) rfl, zmem 317 (by decide +kernel) rfl⟩
theorem zcp_3_ok : ∀ q ∈ zcp_3, zcpOK zmt zcls zT "MindReaders$Row" q.1 q.2 := List.forall_mem_cons.mpr ⟨zq_3_3, List.forall_mem_cons.mpr ⟨zq_3_9, List.forall_mem_cons.mpr ⟨zq_3_15, List.forall_mem_cons.mpr ⟨zq_3_21, List.forall_mem_cons.mpr ⟨zq_3_25, List.forall_mem_cons.mpr ⟨zq_3_28, List.forall_mem_cons.mpr ⟨zq_3_31, List.forall_mem_cons.mpr ⟨zq_3_35, List.forall_mem_cons.mpr ⟨zq_3_39, List.forall_mem_cons.mpr ⟨zq_3_43, List.forall_mem_cons.mpr ⟨zq_3_47, fun _ h => absurd h List.not_mem_nil⟩⟩⟩⟩⟩⟩⟩⟩⟩⟩⟩
/-- MindReaders$Rows -/
def zcp_4 : List (Nat × List Nat) := [(1, [4]), (7, [5, 3, 2, 0]), (9, [3, 170, 1, 2, 1, 21, 3]), (12, [0, 4, 1, 2, 1]), (18, [2, 200, 2, 2, 0, 0]), (24, [0, 4, 0, 2, 1]), (100007, [6, 3])]
theorem zq_4_1 : zcpOK zmt zcls zT "MindReaders$Rows" 1 [4] := ⟨zmem 133 (by decide +kernel) rfl, zmem 78 (by decide +kernel) rfl, zmem 79 (by decide +kernel) rfl⟩
theorem zq_4_7 : zcpOK zmt zcls zT "MindReaders$Rows" 7 [5, 3, 2, 0] := ⟨RX3, TX3, 2, rfl, rfl, zmem 134 (by decide +kernel) rfl, znw_3⟩
theorem zq_4_9 : zcpOK zmt zcls zT "MindReaders$Rows" 9 [3, 170, 1, 2, 1, 21, 3] := ⟨⟨"MindReaders$Row", "<init>", "(I)V"⟩, prog_5_method_1_code, TX3, 2, by decide, rfl, by decide +kernel, rfl, Or.inl (zmem 135 (by decide +kernel) rfl), zmem 89 (by decide +kernel) rfl, rfl⟩
theorem zq_4_12 : zcpOK zmt zcls zT "MindReaders$Rows" 12 [0, 4, 1, 2, 1] := ⟨TX4, 2, rfl, by decide, rfl, zmem 139 (by decide +kernel) rfl, ⟨_, tyX4_ok 1 (by decide), Or.inl ⟨_, rfl⟩⟩, fun h => absurd h (by decide)⟩
theorem zq_4_18 : zcpOK zmt zcls zT "MindReaders$Rows" 18 [2, 200, 2, 2, 0, 0] := ⟨⟨"java/lang/Math", "max", "(II)I"⟩, prog_11_method_65_code, some .int, by decide, rfl, by decide +kernel, Or.inl (zmem 136 (by decide +kernel) rfl), zmem 93 (by decide +kernel) rfl⟩
theorem zq_4_24 : zcpOK zmt zcls zT "MindReaders$Rows" 24 [0, 4, 0, 2, 1] := ⟨TX4, 2, rfl, by decide, rfl, zmem 138 (by decide +kernel) rfl, ⟨_, tyX4_ok 0 (by decide), Or.inr ⟨_, rfl⟩⟩, fun h => absurd h (by decide)⟩
theorem zq_4_100007 : zcpOK zmt zcls zT "MindReaders$Rows" 100007 [6, 3] := ⟨RX3, TX3, 2, rfl, zmem 134 (by decide +kernel) rfl, zmem 137 (by decide +kernel) rfl⟩
theorem zcp_4_ok : ∀ q ∈ zcp_4, zcpOK zmt zcls zT "MindReaders$Rows" q.1 q.2 := List.forall_mem_cons.mpr ⟨zq_4_1, List.forall_mem_cons.mpr ⟨zq_4_7, List.forall_mem_cons.mpr ⟨zq_4_9, List.forall_mem_cons.mpr ⟨zq_4_12, List.forall_mem_cons.mpr ⟨zq_4_18, List.forall_mem_cons.mpr ⟨zq_4_24, List.forall_mem_cons.mpr ⟨zq_4_100007, fun _ h => absurd h List.not_mem_nil⟩⟩⟩⟩⟩⟩⟩
/-- MindReaders$Signals -/
def zcp_5 : List (Nat × List Nat) := [(3, [4]), (9, [5, 3, 2, 0]), (11, [3, 170, 1, 2, 1, 21, 3]), (14, [0, 5, 0, 2, 1]), (20, [0, 5, 1, 2, 1]), (23, [0, 5, 2, 2, 1]), (26, [0, 5, 3, 2, 1]), (29, [1, 171, 0, 1, 0, 0, 3]), (33, [1, 174, 1, 2, 0, 0, 3]), (36, [1, 172, 1, 2, 0, 0, 3]), (40, [1, 189, 1, 2, 1, 20, 5]), (44, [1, 191, 1, 3, 1, 21, 5]), (47, [1, 193, 1, 3, 1, 21, 5]), (50, [1, 194, 1, 3, 1, 21, 5]), (53, [1, 176, 0, 1, 0, 0, 3]), (56, [1, 192, 1, 2, 1, 21, 5]), (59, [1, 175, 0, 1, 0, 0, 3])]
theorem zq_5_3 : zcpOK zmt zcls zT "MindReaders$Signals" 3 [4] := ⟨zmem 85 (by decide +kernel) rfl, zmem 78 (by decide +kernel) rfl, zmem 79 (by decide +kernel) rfl⟩
theorem zq_5_9 : zcpOK zmt zcls zT "MindReaders$Signals" 9 [5, 3, 2, 0] := ⟨RX3, TX3, 2, rfl, rfl, zmem 86 (by decide +kernel) rfl, znw_3⟩
theorem zq_5_11 : zcpOK zmt zcls zT "MindReaders$Signals" 11 [3, 170, 1, 2, 1, 21, 3] := ⟨⟨"MindReaders$Row", "<init>", "(I)V"⟩, prog_5_method_1_code, TX3, 2, by decide, rfl, by decide +kernel, rfl, Or.inl (zmem 88 (by decide +kernel) rfl), zmem 89 (by decide +kernel) rfl, rfl⟩
theorem zq_5_14 : zcpOK zmt zcls zT "MindReaders$Signals" 14 [0, 5, 0, 2, 1] := ⟨TX5, 4, rfl, by decide, rfl, zmem 103 (by decide +kernel) rfl, ⟨_, tyX5_ok 0 (by decide), Or.inl ⟨_, rfl⟩⟩, fun h => absurd h (by decide)⟩
theorem zq_5_20 : zcpOK zmt zcls zT "MindReaders$Signals" 20 [0, 5, 1, 2, 1] := ⟨TX5, 4, rfl, by decide, rfl, zmem 104 (by decide +kernel) rfl, ⟨_, tyX5_ok 1 (by decide), Or.inl ⟨_, rfl⟩⟩, fun h => absurd h (by decide)⟩
theorem zq_5_23 : zcpOK zmt zcls zT "MindReaders$Signals" 23 [0, 5, 2, 2, 1] := ⟨TX5, 4, rfl, by decide, rfl, zmem 105 (by decide +kernel) rfl, ⟨_, tyX5_ok 2 (by decide), Or.inl ⟨_, rfl⟩⟩, fun h => absurd h (by decide)⟩
theorem zq_5_26 : zcpOK zmt zcls zT "MindReaders$Signals" 26 [0, 5, 3, 2, 1] := ⟨TX5, 4, rfl, by decide, rfl, zmem 106 (by decide +kernel) rfl, ⟨_, tyX5_ok 3 (by decide), Or.inl ⟨_, rfl⟩⟩, fun h => absurd h (by decide)⟩
theorem zq_5_29 : zcpOK zmt zcls zT "MindReaders$Signals" 29 [1, 171, 0, 1, 0, 0, 3] := ⟨⟨"MindReaders$Row", "size", "()I"⟩, prog_5_method_2_code, some .int, TX3, 2, by decide, rfl, by decide +kernel, rfl, zmem 304 (by decide +kernel) rfl, zmem 241 (by decide +kernel) rfl, zmem 242 (by decide +kernel) rfl⟩
theorem zq_5_33 : zcpOK zmt zcls zT "MindReaders$Signals" 33 [1, 174, 1, 2, 0, 0, 3] := ⟨⟨"MindReaders$Row", "add", "(I)V"⟩, prog_5_method_5_code, none, TX3, 2, by decide, rfl, by decide +kernel, rfl, zmem 310 (by decide +kernel) rfl, zmem 245 (by decide +kernel) rfl, zmem 246 (by decide +kernel) rfl⟩
theorem zq_5_36 : zcpOK zmt zcls zT "MindReaders$Signals" 36 [1, 172, 1, 2, 0, 0, 3] := ⟨⟨"MindReaders$Row", "at", "(I)I"⟩, prog_5_method_3_code, some .int, TX3, 2, by decide, rfl, by decide +kernel, rfl, zmem 305 (by decide +kernel) rfl, zmem 265 (by decide +kernel) rfl, zmem 266 (by decide +kernel) rfl⟩
theorem zq_5_40 : zcpOK zmt zcls zT "MindReaders$Signals" 40 [1, 189, 1, 2, 1, 20, 5] := ⟨⟨"MindReaders$Signals", "isTold", "(I)Z"⟩, prog_7_method_3_code, some .boolean, TX5, 4, by decide, rfl, by decide +kernel, rfl, zmem 327 (by decide +kernel) rfl, zmem 328 (by decide +kernel) rfl, zmem 329 (by decide +kernel) rfl⟩
theorem zq_5_44 : zcpOK zmt zcls zT "MindReaders$Signals" 44 [1, 191, 1, 3, 1, 21, 5] := ⟨⟨"MindReaders$Signals", "kindOf", "(I)I"⟩, prog_7_method_5_code, some .int, TX5, 4, by decide, rfl, by decide +kernel, rfl, zmem 306 (by decide +kernel) rfl, zmem 307 (by decide +kernel) rfl, zmem 308 (by decide +kernel) rfl⟩
theorem zq_5_47 : zcpOK zmt zcls zT "MindReaders$Signals" 47 [1, 193, 1, 3, 1, 21, 5] := ⟨⟨"MindReaders$Signals", "secondsOf", "(I)I"⟩, prog_7_method_7_code, some .int, TX5, 4, by decide, rfl, by decide +kernel, rfl, zmem 399 (by decide +kernel) rfl, zmem 355 (by decide +kernel) rfl, zmem 356 (by decide +kernel) rfl⟩
theorem zq_5_50 : zcpOK zmt zcls zT "MindReaders$Signals" 50 [1, 194, 1, 3, 1, 21, 5] := ⟨⟨"MindReaders$Signals", "oddOf", "(I)I"⟩, prog_7_method_8_code, some .int, TX5, 4, by decide, rfl, by decide +kernel, rfl, zmem 505 (by decide +kernel) rfl, zmem 359 (by decide +kernel) rfl, zmem 360 (by decide +kernel) rfl⟩
theorem zq_5_53 : zcpOK zmt zcls zT "MindReaders$Signals" 53 [1, 176, 0, 1, 0, 0, 3] := ⟨⟨"MindReaders$Row", "wipe", "()V"⟩, prog_5_method_7_code, none, TX3, 2, by decide, rfl, by decide +kernel, rfl, zmem 303 (by decide +kernel) rfl, zmem 253 (by decide +kernel) rfl, zmem 254 (by decide +kernel) rfl⟩
theorem zq_5_56 : zcpOK zmt zcls zT "MindReaders$Signals" 56 [1, 192, 1, 2, 1, 21, 5] := ⟨⟨"MindReaders$Signals", "toneOf", "(I)I"⟩, prog_7_method_6_code, some .int, TX5, 4, by decide, rfl, by decide +kernel, rfl, zmem 311 (by decide +kernel) rfl, zmem 312 (by decide +kernel) rfl, zmem 313 (by decide +kernel) rfl⟩
theorem zq_5_59 : zcpOK zmt zcls zT "MindReaders$Signals" 59 [1, 175, 0, 1, 0, 0, 3] := ⟨⟨"MindReaders$Row", "dropLast", "()V"⟩, prog_5_method_6_code, none, TX3, 2, by decide, rfl, by decide +kernel, rfl, zmem 315 (by decide +kernel) rfl, zmem 316 (by decide +kernel) rfl, zmem 317 (by decide +kernel) rfl⟩
theorem zcp_5_ok : ∀ q ∈ zcp_5, zcpOK zmt zcls zT "MindReaders$Signals" q.1 q.2 := List.forall_mem_cons.mpr ⟨zq_5_3, List.forall_mem_cons.mpr ⟨zq_5_9, List.forall_mem_cons.mpr ⟨zq_5_11, List.forall_mem_cons.mpr ⟨zq_5_14, List.forall_mem_cons.mpr ⟨zq_5_20, List.forall_mem_cons.mpr ⟨zq_5_23, List.forall_mem_cons.mpr ⟨zq_5_26, List.forall_mem_cons.mpr ⟨zq_5_29, List.forall_mem_cons.mpr ⟨zq_5_33, List.forall_mem_cons.mpr ⟨zq_5_36, List.forall_mem_cons.mpr ⟨zq_5_40, List.forall_mem_cons.mpr ⟨zq_5_44, List.forall_mem_cons.mpr ⟨zq_5_47, List.forall_mem_cons.mpr ⟨zq_5_50, List.forall_mem_cons.mpr ⟨zq_5_53, List.forall_mem_cons.mpr ⟨zq_5_56, List.forall_mem_cons.mpr ⟨zq_5_59, fun _ h => absurd h List.not_mem_nil⟩⟩⟩⟩⟩⟩⟩⟩⟩⟩⟩⟩⟩⟩⟩⟩⟩
/-- MindReaders -/
def zcp_6 : List (Nat × List Nat) := [(3, [4]), (9, [5, 5, 2, 2, 2, 2]), (11, [3, 187, 0, 1, 2, 42, 5]), (12, [0, 6, 0, 2, 1]), (16, [5, 3, 2, 0]), (18, [3, 170, 1, 2, 1, 21, 3]), (21, [0, 6, 1, 2, 1]), (25, [5, 0, 2, 2, 0]), (27, [0, 6, 2, 2, 1]), (31, [0, 6, 4, 2, 1]), (34, [5, 1, 2, 2]), (36, [3, 158, 0, 1, 3, 65, 1]), (37, [0, 6, 5, 2, 1]), (41, [0, 6, 6, 2, 1]), (44, [0, 6, 7, 2, 1]), (47, [0, 6, 9, 2, 1]), (50, [0, 6, 10, 2, 1]), (53, [0, 6, 11, 2, 1]), (56, [5, 4, 2, 2]), (58, [3, 185, 2, 4, 2, 42, 4]), (61, [0, 6, 12, 2, 1]), (65, [5, 2, 2, 0]), (67, [3, 165, 0, 1, 2, 42, 2]), (68, [0, 6, 13, 2, 1]), (72, [3, 147, 0, 1, 3, 65, 0]), (73, [2, 41, 1, 5, 1, 22]), (77, [1, 171, 0, 1, 0, 0, 3]), (81, [2, 40, 2, 3, 0, 0]), (85, [1, 174, 1, 2, 0, 0, 3]), (88, [1, 176, 0, 1, 0, 0, 3]), (91, [1, 43, 0, 5, 1, 21, 6]), (94, [1, 172, 1, 2, 0, 0, 3]), (98, [2, 42, 1, 1, 0, 0]), (101, [0, 6, 3, 0, 0]), (105, [1, 151, 1, 4, 2, 43, 0]), (109, [1, 152, 1, 3, 3, 69, 0]), (113, [1, 195, 2, 3, 2, 43, 5]), (117, [1, 188, 0, 1, 1, 20, 5]), (120, [1, 190, 4, 5, 1, 21, 5]), (124, [1, 49, 1, 2, 0, 0, 6]), (128, [1, 189, 1, 2, 1, 20, 5]), (132, [1, 191, 1, 3, 1, 21, 5]), (135, [1, 192, 1, 2, 1, 21, 5]), (138, [1, 193, 1, 3, 1, 21, 5]), (141, [1, 194, 1, 3, 1, 21, 5]), (144, [2, 46, 1, 1, 0, 0]), (147, [1, 48, 1, 2, 1, 20, 6]), (150, [1, 173, 2, 3, 0, 0, 3]), (153, [1, 148, 0, 1, 0, 0, 0]), (154, [1, 149, 1, 2, 1, 22, 0]), (158, [1, 150, 1, 2, 1, 22, 0]), (161, [1, 51, 2, 3, 3, 66, 6]), (165, [1, 45, 0, 1, 3, 69, 6]), (169, [1, 153, 1, 3, 3, 64, 0]), (173, [1, 154, 0, 3, 3, 64, 0]), (176, [2, 52, 2, 2, 0, 0]), (180, [1, 155, 0, 3, 2, 43, 0]), (183, [1, 166, 1, 4, 4, 100, 2]), (187, [2, 47, 1, 1, 0, 0]), (190, [1, 50, 1, 2, 1, 21, 6]), (193, [1, 182, 1, 4, 1, 21, 3]), (196, [2, 64, 3, 12, 0, 0]), (200, [1, 197, 1, 4, 2, 43, 5]), (203, [1, 53, 2, 6, 5, 113, 6]), (206, [1, 58, 1, 8, 2, 44, 6]), (210, [1, 156, 0, 5, 2, 44, 0]), (213, [1, 157, 1, 6, 2, 44, 0]), (216, [8, 1, 101]), (218, [8, 1, 102]), (220, [1, 181, 1, 3, 1, 21, 3]), (223, [8, 1, 103]), (225, [1, 59, 4, 13, 3, 69, 6]), (229, [2, 63, 2, 6, 0, 0]), (233, [1, 44, 0, 3, 1, 21, 6]), (236, [1, 159, 0, 1, 1, 20, 1]), (237, [1, 162, 2, 3, 2, 43, 1]), (240, [1, 163, 0, 1, 1, 20, 1]), (241, [1, 57, 3, 6, 3, 69, 6]), (245, [1, 61, 1, 8, 1, 25, 6]), (248, [1, 56, 2, 5, 4, 88, 6]), (252, [2, 62, 2, 5, 0, 0]), (256, [1, 65, 3, 8, 3, 69, 6]), (260, [2, 199, 1, 1, 0, 0]), (265, [1, 177, 1, 3, 1, 21, 3]), (268, [1, 164, 1, 3, 3, 65, 1]), (271, [0, 6, 8, 3, 0]), (275, [8, 0, 479]), (277, [1, 8, 2, 3, 2, 43, 6]), (280, [2, 37, 2, 4, 0, 0]), (284, [2, 38, 2, 6, 1, 23]), (288, [1, 39, 3, 9, 5, 123, 6]), (292, [1, 160, 1, 2, 1, 21, 1]), (295, [1, 161, 1, 2, 1, 22, 1]), (298, [1, 25, 0, 4, 4, 94, 6]), (301, [1, 35, 1, 2, 2, 44, 6]), (304, [8, 0, 31]), (306, [1, 11, 3, 5, 4, 88, 6]), (310, [1, 13, 2, 5, 4, 86, 6]), (313, [1, 17, 1, 6, 3, 66, 6]), (316, [1, 20, 1, 3, 3, 68, 6]), (319, [1, 32, 1, 5, 4, 96, 6]), (322, [8, 0, 255]), (324, [1, 198, 3, 7, 2, 43, 5]), (327, [2, 201, 2, 2, 0, 0]), (332, [1, 196, 1, 4, 2, 43, 5]), (335, [2, 55, 4, 4, 0, 0]), (339, [1, 54, 3, 6, 4, 88, 6]), (342, [1, 178, 1, 2, 2, 43, 3]), (346, [1, 183, 0, 3, 1, 22, 3]), (349, [1, 60, 3, 7, 1, 21, 6]), (353, [1, 184, 1, 4, 1, 22, 3]), (356, [1, 186, 1, 3, 0, 0, 4]), (100025, [6, 0])]
theorem zq_6_3 : zcpOK zmt zcls zT "MindReaders" 3 [4] := ⟨zmem 77 (by decide +kernel) rfl, zmem 78 (by decide +kernel) rfl, zmem 79 (by decide +kernel) rfl⟩
theorem zq_6_9 : zcpOK zmt zcls zT "MindReaders" 9 [5, 5, 2, 2, 2, 2] := ⟨RX5, TX5, 4, rfl, rfl, zmem 80 (by decide +kernel) rfl, znw_5⟩
theorem zq_6_11 : zcpOK zmt zcls zT "MindReaders" 11 [3, 187, 0, 1, 2, 42, 5] := ⟨⟨"MindReaders$Signals", "<init>", "()V"⟩, prog_7_method_1_code, TX5, 4, by decide, rfl, by decide +kernel, rfl, Or.inr ⟨"MindReaders", zmem 82 (by decide +kernel) rfl⟩, zmem 83 (by decide +kernel) rfl, rfl⟩
theorem zq_6_12 : zcpOK zmt zcls zT "MindReaders" 12 [0, 6, 0, 2, 1] := ⟨TX6, 14, rfl, by decide, rfl, zmem 186 (by decide +kernel) rfl, ⟨_, tyX6_ok 0 (by decide), Or.inl ⟨_, rfl⟩⟩, fun h => absurd h (by decide)⟩
theorem zq_6_16 : zcpOK zmt zcls zT "MindReaders" 16 [5, 3, 2, 0] := ⟨RX3, TX3, 2, rfl, rfl, zmem 116 (by decide +kernel) rfl, znw_3⟩
theorem zq_6_18 : zcpOK zmt zcls zT "MindReaders" 18 [3, 170, 1, 2, 1, 21, 3] := ⟨⟨"MindReaders$Row", "<init>", "(I)V"⟩, prog_5_method_1_code, TX3, 2, by decide, rfl, by decide +kernel, rfl, Or.inl (zmem 117 (by decide +kernel) rfl), zmem 89 (by decide +kernel) rfl, rfl⟩
theorem zq_6_21 : zcpOK zmt zcls zT "MindReaders" 21 [0, 6, 1, 2, 1] := ⟨TX6, 14, rfl, by decide, rfl, zmem 187 (by decide +kernel) rfl, ⟨_, tyX6_ok 1 (by decide), Or.inl ⟨_, rfl⟩⟩, fun h => absurd h (by decide)⟩
theorem zq_6_25 : zcpOK zmt zcls zT "MindReaders" 25 [5, 0, 2, 2, 0] := ⟨RX0, TX0, 3, rfl, rfl, zmem 118 (by decide +kernel) rfl, znw_0⟩
theorem zq_6_27 : zcpOK zmt zcls zT "MindReaders" 27 [0, 6, 2, 2, 1] := ⟨TX6, 14, rfl, by decide, rfl, zmem 188 (by decide +kernel) rfl, ⟨_, tyX6_ok 2 (by decide), Or.inr ⟨_, rfl⟩⟩, fun h => absurd h (by decide)⟩
theorem zq_6_31 : zcpOK zmt zcls zT "MindReaders" 31 [0, 6, 4, 2, 1] := ⟨TX6, 14, rfl, by decide, rfl, zmem 190 (by decide +kernel) rfl, ⟨_, tyX6_ok 4 (by decide), Or.inl ⟨_, rfl⟩⟩, fun h => absurd h (by decide)⟩
theorem zq_6_34 : zcpOK zmt zcls zT "MindReaders" 34 [5, 1, 2, 2] := ⟨RX1, TX1, 2, rfl, rfl, zmem 120 (by decide +kernel) rfl, znw_1⟩
theorem zq_6_36 : zcpOK zmt zcls zT "MindReaders" 36 [3, 158, 0, 1, 3, 65, 1] := ⟨⟨"MindReaders$Notes", "<init>", "()V"⟩, prog_3_method_1_code, TX1, 2, by decide, rfl, by decide +kernel, rfl, Or.inr ⟨"MindReaders", zmem 122 (by decide +kernel) rfl⟩, zmem 123 (by decide +kernel) rfl, rfl⟩
theorem zq_6_37 : zcpOK zmt zcls zT "MindReaders" 37 [0, 6, 5, 2, 1] := ⟨TX6, 14, rfl, by decide, rfl, zmem 191 (by decide +kernel) rfl, ⟨_, tyX6_ok 5 (by decide), Or.inl ⟨_, rfl⟩⟩, fun h => absurd h (by decide)⟩
theorem zq_6_41 : zcpOK zmt zcls zT "MindReaders" 41 [0, 6, 6, 2, 1] := ⟨TX6, 14, rfl, by decide, rfl, zmem 192 (by decide +kernel) rfl, ⟨_, tyX6_ok 6 (by decide), Or.inl ⟨_, rfl⟩⟩, fun h => absurd h (by decide)⟩
theorem zq_6_44 : zcpOK zmt zcls zT "MindReaders" 44 [0, 6, 7, 2, 1] := ⟨TX6, 14, rfl, by decide, rfl, zmem 193 (by decide +kernel) rfl, ⟨_, tyX6_ok 7 (by decide), Or.inl ⟨_, rfl⟩⟩, fun h => absurd h (by decide)⟩
theorem zq_6_47 : zcpOK zmt zcls zT "MindReaders" 47 [0, 6, 9, 2, 1] := ⟨TX6, 14, rfl, by decide, rfl, zmem 195 (by decide +kernel) rfl, ⟨_, tyX6_ok 9 (by decide), Or.inl ⟨_, rfl⟩⟩, fun h => absurd h (by decide)⟩
theorem zq_6_50 : zcpOK zmt zcls zT "MindReaders" 50 [0, 6, 10, 2, 1] := ⟨TX6, 14, rfl, by decide, rfl, zmem 196 (by decide +kernel) rfl, ⟨_, tyX6_ok 10 (by decide), Or.inl ⟨_, rfl⟩⟩, fun h => absurd h (by decide)⟩
theorem zq_6_53 : zcpOK zmt zcls zT "MindReaders" 53 [0, 6, 11, 2, 1] := ⟨TX6, 14, rfl, by decide, rfl, zmem 197 (by decide +kernel) rfl, ⟨_, tyX6_ok 11 (by decide), Or.inl ⟨_, rfl⟩⟩, fun h => absurd h (by decide)⟩
theorem zq_6_56 : zcpOK zmt zcls zT "MindReaders" 56 [5, 4, 2, 2] := ⟨RX4, TX4, 2, rfl, rfl, zmem 152 (by decide +kernel) rfl, znw_4⟩
theorem zq_6_58 : zcpOK zmt zcls zT "MindReaders" 58 [3, 185, 2, 4, 2, 42, 4] := ⟨⟨"MindReaders$Rows", "<init>", "(II)V"⟩, prog_6_method_1_code, TX4, 2, by decide, rfl, by decide +kernel, rfl, Or.inl (zmem 153 (by decide +kernel) rfl), zmem 131 (by decide +kernel) rfl, rfl⟩
theorem zq_6_61 : zcpOK zmt zcls zT "MindReaders" 61 [0, 6, 12, 2, 1] := ⟨TX6, 14, rfl, by decide, rfl, zmem 198 (by decide +kernel) rfl, ⟨_, tyX6_ok 12 (by decide), Or.inl ⟨_, rfl⟩⟩, fun h => absurd h (by decide)⟩
theorem zq_6_65 : zcpOK zmt zcls zT "MindReaders" 65 [5, 2, 2, 0] := ⟨RX2, TX2, 2, rfl, rfl, zmem 154 (by decide +kernel) rfl, znw_2⟩
theorem zq_6_67 : zcpOK zmt zcls zT "MindReaders" 67 [3, 165, 0, 1, 2, 42, 2] := ⟨⟨"MindReaders$Readings", "<init>", "()V"⟩, prog_4_method_1_code, TX2, 2, by decide, rfl, by decide +kernel, rfl, Or.inr ⟨"MindReaders", zmem 156 (by decide +kernel) rfl⟩, zmem 157 (by decide +kernel) rfl, rfl⟩
theorem zq_6_68 : zcpOK zmt zcls zT "MindReaders" 68 [0, 6, 13, 2, 1] := ⟨TX6, 14, rfl, by decide, rfl, zmem 199 (by decide +kernel) rfl, ⟨_, tyX6_ok 13 (by decide), Or.inl ⟨_, rfl⟩⟩, fun h => absurd h (by decide)⟩
theorem zq_6_72 : zcpOK zmt zcls zT "MindReaders" 72 [3, 147, 0, 1, 3, 65, 0] := ⟨⟨"MindReaders$Code", "<init>", "()V"⟩, prog_2_method_1_code, TX0, 3, by decide, rfl, by decide +kernel, rfl, Or.inr ⟨"MindReaders", zmem 170 (by decide +kernel) rfl⟩, zmem 171 (by decide +kernel) rfl, rfl⟩
theorem zq_6_73 : zcpOK zmt zcls zT "MindReaders" 73 [2, 41, 1, 5, 1, 22] := ⟨⟨"MindReaders", "lettersIn", "(J)I"⟩, prog_1_method_41_code, some .int, by decide, rfl, by decide +kernel, Or.inl (zmem 233 (by decide +kernel) rfl), zmem 234 (by decide +kernel) rfl⟩
theorem zq_6_77 : zcpOK zmt zcls zT "MindReaders" 77 [1, 171, 0, 1, 0, 0, 3] := ⟨⟨"MindReaders$Row", "size", "()I"⟩, prog_5_method_2_code, some .int, TX3, 2, by decide, rfl, by decide +kernel, rfl, zmem 240 (by decide +kernel) rfl, zmem 241 (by decide +kernel) rfl, zmem 242 (by decide +kernel) rfl⟩
theorem zq_6_81 : zcpOK zmt zcls zT "MindReaders" 81 [2, 40, 2, 3, 0, 0] := ⟨⟨"MindReaders", "byteOf", "(JI)I"⟩, prog_1_method_40_code, some .int, by decide, rfl, by decide +kernel, Or.inl (zmem 236 (by decide +kernel) rfl), zmem 237 (by decide +kernel) rfl⟩
theorem zq_6_85 : zcpOK zmt zcls zT "MindReaders" 85 [1, 174, 1, 2, 0, 0, 3] := ⟨⟨"MindReaders$Row", "add", "(I)V"⟩, prog_5_method_5_code, none, TX3, 2, by decide, rfl, by decide +kernel, rfl, zmem 244 (by decide +kernel) rfl, zmem 245 (by decide +kernel) rfl, zmem 246 (by decide +kernel) rfl⟩
theorem zq_6_88 : zcpOK zmt zcls zT "MindReaders" 88 [1, 176, 0, 1, 0, 0, 3] := ⟨⟨"MindReaders$Row", "wipe", "()V"⟩, prog_5_method_7_code, none, TX3, 2, by decide, rfl, by decide +kernel, rfl, zmem 252 (by decide +kernel) rfl, zmem 253 (by decide +kernel) rfl, zmem 254 (by decide +kernel) rfl⟩
theorem zq_6_91 : zcpOK zmt zcls zT "MindReaders" 91 [1, 43, 0, 5, 1, 21, 6] := ⟨⟨"MindReaders", "firstFault", "()I"⟩, prog_1_method_43_code, some .int, TX6, 14, by decide, rfl, by decide +kernel, rfl, zmem 260 (by decide +kernel) rfl, zmem 262 (by decide +kernel) rfl, zmem 0 (by decide +kernel) rfl⟩
theorem zq_6_94 : zcpOK zmt zcls zT "MindReaders" 94 [1, 172, 1, 2, 0, 0, 3] := ⟨⟨"MindReaders$Row", "at", "(I)I"⟩, prog_5_method_3_code, some .int, TX3, 2, by decide, rfl, by decide +kernel, rfl, zmem 264 (by decide +kernel) rfl, zmem 265 (by decide +kernel) rfl, zmem 266 (by decide +kernel) rfl⟩
theorem zq_6_98 : zcpOK zmt zcls zT "MindReaders" 98 [2, 42, 1, 1, 0, 0] := ⟨⟨"MindReaders", "signalOf", "(I)I"⟩, prog_1_method_42_code, some .int, by decide, rfl, by decide +kernel, Or.inl (zmem 268 (by decide +kernel) rfl), zmem 269 (by decide +kernel) rfl⟩
theorem zq_6_101 : zcpOK zmt zcls zT "MindReaders" 101 [0, 6, 3, 0, 0] := ⟨TX6, 14, rfl, by decide, rfl, zmem 189 (by decide +kernel) rfl, ⟨_, tyX6_ok 3 (by decide), rfl⟩, fun _ => rfl⟩
theorem zq_6_105 : zcpOK zmt zcls zT "MindReaders" 105 [1, 151, 1, 4, 2, 43, 0] := ⟨⟨"MindReaders$Code", "readFrom", "(LMindReaders$Row;)V"⟩, prog_2_method_5_code, none, TX0, 3, by decide, rfl, by decide +kernel, rfl, zmem 275 (by decide +kernel) rfl, zmem 276 (by decide +kernel) rfl, zmem 277 (by decide +kernel) rfl⟩
theorem zq_6_109 : zcpOK zmt zcls zT "MindReaders" 109 [1, 152, 1, 3, 3, 69, 0] := ⟨⟨"MindReaders$Code", "makePlain", "(LMindReaders$Signals;)V"⟩, prog_2_method_6_code, none, TX0, 3, by decide, rfl, by decide +kernel, rfl, zmem 291 (by decide +kernel) rfl, zmem 292 (by decide +kernel) rfl, zmem 293 (by decide +kernel) rfl⟩
theorem zq_6_113 : zcpOK zmt zcls zT "MindReaders" 113 [1, 195, 2, 3, 2, 43, 5] := ⟨⟨"MindReaders$Signals", "isToneFor", "(II)Z"⟩, prog_7_method_9_code, some .boolean, TX5, 4, by decide, rfl, by decide +kernel, rfl, zmem 323 (by decide +kernel) rfl, zmem 324 (by decide +kernel) rfl, zmem 325 (by decide +kernel) rfl⟩
theorem zq_6_117 : zcpOK zmt zcls zT "MindReaders" 117 [1, 188, 0, 1, 1, 20, 5] := ⟨⟨"MindReaders$Signals", "told", "()I"⟩, prog_7_method_2_code, some .int, TX5, 4, by decide, rfl, by decide +kernel, rfl, zmem 331 (by decide +kernel) rfl, zmem 332 (by decide +kernel) rfl, zmem 333 (by decide +kernel) rfl⟩
theorem zq_6_120 : zcpOK zmt zcls zT "MindReaders" 120 [1, 190, 4, 5, 1, 21, 5] := ⟨⟨"MindReaders$Signals", "tell", "(IIII)V"⟩, prog_7_method_4_code, none, TX5, 4, by decide, rfl, by decide +kernel, rfl, zmem 335 (by decide +kernel) rfl, zmem 336 (by decide +kernel) rfl, zmem 337 (by decide +kernel) rfl⟩
theorem zq_6_124 : zcpOK zmt zcls zT "MindReaders" 124 [1, 49, 1, 2, 0, 0, 6] := ⟨⟨"MindReaders", "codeAt", "(I)LMindReaders$Code;"⟩, prog_1_method_49_code, some (.object "MindReaders$Code"), TX6, 14, by decide, rfl, by decide +kernel, rfl, zmem 339 (by decide +kernel) rfl, zmem 341 (by decide +kernel) rfl, zmem 1 (by decide +kernel) rfl⟩
theorem zq_6_128 : zcpOK zmt zcls zT "MindReaders" 128 [1, 189, 1, 2, 1, 20, 5] := ⟨⟨"MindReaders$Signals", "isTold", "(I)Z"⟩, prog_7_method_3_code, some .boolean, TX5, 4, by decide, rfl, by decide +kernel, rfl, zmem 347 (by decide +kernel) rfl, zmem 328 (by decide +kernel) rfl, zmem 329 (by decide +kernel) rfl⟩
theorem zq_6_132 : zcpOK zmt zcls zT "MindReaders" 132 [1, 191, 1, 3, 1, 21, 5] := ⟨⟨"MindReaders$Signals", "kindOf", "(I)I"⟩, prog_7_method_5_code, some .int, TX5, 4, by decide, rfl, by decide +kernel, rfl, zmem 348 (by decide +kernel) rfl, zmem 307 (by decide +kernel) rfl, zmem 308 (by decide +kernel) rfl⟩
theorem zq_6_135 : zcpOK zmt zcls zT "MindReaders" 135 [1, 192, 1, 2, 1, 21, 5] := ⟨⟨"MindReaders$Signals", "toneOf", "(I)I"⟩, prog_7_method_6_code, some .int, TX5, 4, by decide, rfl, by decide +kernel, rfl, zmem 353 (by decide +kernel) rfl, zmem 312 (by decide +kernel) rfl, zmem 313 (by decide +kernel) rfl⟩
theorem zq_6_138 : zcpOK zmt zcls zT "MindReaders" 138 [1, 193, 1, 3, 1, 21, 5] := ⟨⟨"MindReaders$Signals", "secondsOf", "(I)I"⟩, prog_7_method_7_code, some .int, TX5, 4, by decide, rfl, by decide +kernel, rfl, zmem 354 (by decide +kernel) rfl, zmem 355 (by decide +kernel) rfl, zmem 356 (by decide +kernel) rfl⟩
theorem zq_6_141 : zcpOK zmt zcls zT "MindReaders" 141 [1, 194, 1, 3, 1, 21, 5] := ⟨⟨"MindReaders$Signals", "oddOf", "(I)I"⟩, prog_7_method_8_code, some .int, TX5, 4, by decide, rfl, by decide +kernel, rfl, zmem 358 (by decide +kernel) rfl, zmem 359 (by decide +kernel) rfl, zmem 360 (by decide +kernel) rfl⟩
theorem zq_6_144 : zcpOK zmt zcls zT "MindReaders" 144 [2, 46, 1, 1, 0, 0] := ⟨⟨"MindReaders", "isWeight", "(I)Z"⟩, prog_1_method_46_code, some .boolean, by decide, rfl, by decide +kernel, Or.inl (zmem 366 (by decide +kernel) rfl), zmem 367 (by decide +kernel) rfl⟩
theorem zq_6_147 : zcpOK zmt zcls zT "MindReaders" 147 [1, 48, 1, 2, 1, 20, 6] := ⟨⟨"MindReaders", "isThing", "(I)Z"⟩, prog_1_method_48_code, some .boolean, TX6, 14, by decide, rfl, by decide +kernel, rfl, zmem 373 (by decide +kernel) rfl, zmem 375 (by decide +kernel) rfl, zmem 2 (by decide +kernel) rfl⟩
theorem zq_6_150 : zcpOK zmt zcls zT "MindReaders" 150 [1, 173, 2, 3, 0, 0, 3] := ⟨⟨"MindReaders$Row", "set", "(II)V"⟩, prog_5_method_4_code, none, TX3, 2, by decide, rfl, by decide +kernel, rfl, zmem 377 (by decide +kernel) rfl, zmem 378 (by decide +kernel) rfl, zmem 379 (by decide +kernel) rfl⟩
theorem zq_6_153 : zcpOK zmt zcls zT "MindReaders" 153 [1, 148, 0, 1, 0, 0, 0] := ⟨⟨"MindReaders$Code", "size", "()I"⟩, prog_2_method_2_code, some .int, TX0, 3, by decide, rfl, by decide +kernel, rfl, zmem 385 (by decide +kernel) rfl, zmem 386 (by decide +kernel) rfl, zmem 387 (by decide +kernel) rfl⟩
theorem zq_6_154 : zcpOK zmt zcls zT "MindReaders" 154 [1, 149, 1, 2, 1, 22, 0] := ⟨⟨"MindReaders$Code", "spoken", "(I)LMindReaders$Row;"⟩, prog_2_method_3_code, some (.object "MindReaders$Row"), TX0, 3, by decide, rfl, by decide +kernel, rfl, zmem 389 (by decide +kernel) rfl, zmem 283 (by decide +kernel) rfl, zmem 284 (by decide +kernel) rfl⟩
theorem zq_6_158 : zcpOK zmt zcls zT "MindReaders" 158 [1, 150, 1, 2, 1, 22, 0] := ⟨⟨"MindReaders$Code", "plain", "(I)LMindReaders$Row;"⟩, prog_2_method_4_code, some (.object "MindReaders$Row"), TX0, 3, by decide, rfl, by decide +kernel, rfl, zmem 390 (by decide +kernel) rfl, zmem 296 (by decide +kernel) rfl, zmem 297 (by decide +kernel) rfl⟩
theorem zq_6_161 : zcpOK zmt zcls zT "MindReaders" 161 [1, 51, 2, 3, 3, 66, 6] := ⟨⟨"MindReaders", "longOf", "(LMindReaders$Code;I)I"⟩, prog_1_method_51_code, some .int, TX6, 14, by decide, rfl, by decide +kernel, rfl, zmem 391 (by decide +kernel) rfl, zmem 393 (by decide +kernel) rfl, zmem 3 (by decide +kernel) rfl⟩
theorem zq_6_165 : zcpOK zmt zcls zT "MindReaders" 165 [1, 45, 0, 1, 3, 69, 6] := ⟨⟨"MindReaders", "hearPage", "()Z"⟩, prog_1_method_45_code, some .boolean, TX6, 14, by decide, rfl, by decide +kernel, rfl, zmem 404 (by decide +kernel) rfl, zmem 406 (by decide +kernel) rfl, zmem 4 (by decide +kernel) rfl⟩
theorem zq_6_169 : zcpOK zmt zcls zT "MindReaders" 169 [1, 153, 1, 3, 3, 64, 0] := ⟨⟨"MindReaders$Code", "meaningOf", "(LMindReaders$Row;)I"⟩, prog_2_method_7_code, some .int, TX0, 3, by decide, rfl, by decide +kernel, rfl, zmem 413 (by decide +kernel) rfl, zmem 414 (by decide +kernel) rfl, zmem 415 (by decide +kernel) rfl⟩
theorem zq_6_173 : zcpOK zmt zcls zT "MindReaders" 173 [1, 154, 0, 3, 3, 64, 0] := ⟨⟨"MindReaders$Code", "firstAlike", "()I"⟩, prog_2_method_8_code, some .int, TX0, 3, by decide, rfl, by decide +kernel, rfl, zmem 431 (by decide +kernel) rfl, zmem 432 (by decide +kernel) rfl, zmem 433 (by decide +kernel) rfl⟩
theorem zq_6_176 : zcpOK zmt zcls zT "MindReaders" 176 [2, 52, 2, 2, 0, 0] := ⟨⟨"MindReaders", "ofPair", "(II)I"⟩, prog_1_method_52_code, some .int, by decide, rfl, by decide +kernel, Or.inl (zmem 435 (by decide +kernel) rfl), zmem 436 (by decide +kernel) rfl⟩
theorem zq_6_180 : zcpOK zmt zcls zT "MindReaders" 180 [1, 155, 0, 3, 2, 43, 0] := ⟨⟨"MindReaders$Code", "firstStart", "()I"⟩, prog_2_method_9_code, some .int, TX0, 3, by decide, rfl, by decide +kernel, rfl, zmem 442 (by decide +kernel) rfl, zmem 443 (by decide +kernel) rfl, zmem 444 (by decide +kernel) rfl⟩
theorem zq_6_183 : zcpOK zmt zcls zT "MindReaders" 183 [1, 166, 1, 4, 4, 100, 2] := ⟨⟨"MindReaders$Readings", "leastTwice", "(LMindReaders$Code;)I"⟩, prog_4_method_2_code, some .int, TX2, 2, by decide, rfl, by decide +kernel, rfl, zmem 451 (by decide +kernel) rfl, zmem 452 (by decide +kernel) rfl, zmem 453 (by decide +kernel) rfl⟩
theorem zq_6_187 : zcpOK zmt zcls zT "MindReaders" 187 [2, 47, 1, 1, 0, 0] := ⟨⟨"MindReaders", "isPart", "(I)Z"⟩, prog_1_method_47_code, some .boolean, by decide, rfl, by decide +kernel, Or.inl (zmem 482 (by decide +kernel) rfl), zmem 483 (by decide +kernel) rfl⟩
theorem zq_6_190 : zcpOK zmt zcls zT "MindReaders" 190 [1, 50, 1, 2, 1, 21, 6] := ⟨⟨"MindReaders", "thingsSaid", "(LMindReaders$Code;)I"⟩, prog_1_method_50_code, some .int, TX6, 14, by decide, rfl, by decide +kernel, rfl, zmem 485 (by decide +kernel) rfl, zmem 487 (by decide +kernel) rfl, zmem 9 (by decide +kernel) rfl⟩
theorem zq_6_193 : zcpOK zmt zcls zT "MindReaders" 193 [1, 182, 1, 4, 1, 21, 3] := ⟨⟨"MindReaders$Row", "sumOf", "(I)I"⟩, prog_5_method_13_code, some .int, TX3, 2, by decide, rfl, by decide +kernel, rfl, zmem 490 (by decide +kernel) rfl, zmem 491 (by decide +kernel) rfl, zmem 492 (by decide +kernel) rfl⟩
theorem zq_6_196 : zcpOK zmt zcls zT "MindReaders" 196 [2, 64, 3, 12, 0, 0] := ⟨⟨"MindReaders", "lowest", "(JJI)J"⟩, prog_1_method_64_code, some .long, by decide, rfl, by decide +kernel, Or.inl (zmem 494 (by decide +kernel) rfl), zmem 495 (by decide +kernel) rfl⟩
theorem zq_6_200 : zcpOK zmt zcls zT "MindReaders" 200 [1, 197, 1, 4, 2, 43, 5] := ⟨⟨"MindReaders$Signals", "oddOfAll", "(LMindReaders$Row;)I"⟩, prog_7_method_11_code, some .int, TX5, 4, by decide, rfl, by decide +kernel, rfl, zmem 501 (by decide +kernel) rfl, zmem 502 (by decide +kernel) rfl, zmem 503 (by decide +kernel) rfl⟩
theorem zq_6_203 : zcpOK zmt zcls zT "MindReaders" 203 [1, 53, 2, 6, 5, 113, 6] := ⟨⟨"MindReaders", "dealtTo", "(LMindReaders$Code;I)I"⟩, prog_1_method_53_code, some .int, TX6, 14, by decide, rfl, by decide +kernel, rfl, zmem 510 (by decide +kernel) rfl, zmem 512 (by decide +kernel) rfl, zmem 10 (by decide +kernel) rfl⟩
theorem zq_6_206 : zcpOK zmt zcls zT "MindReaders" 206 [1, 58, 1, 8, 2, 44, 6] := ⟨⟨"MindReaders", "leastLong", "(I)J"⟩, prog_1_method_58_code, some .long, TX6, 14, by decide, rfl, by decide +kernel, rfl, zmem 525 (by decide +kernel) rfl, zmem 527 (by decide +kernel) rfl, zmem 12 (by decide +kernel) rfl⟩
theorem zq_6_210 : zcpOK zmt zcls zT "MindReaders" 210 [1, 156, 0, 5, 2, 44, 0] := ⟨⟨"MindReaders$Code", "leastApart", "()I"⟩, prog_2_method_10_code, some .int, TX0, 3, by decide, rfl, by decide +kernel, rfl, zmem 545 (by decide +kernel) rfl, zmem 546 (by decide +kernel) rfl, zmem 547 (by decide +kernel) rfl⟩
theorem zq_6_213 : zcpOK zmt zcls zT "MindReaders" 213 [1, 157, 1, 6, 2, 44, 0] := ⟨⟨"MindReaders$Code", "nearestTo", "(LMindReaders$Row;)I"⟩, prog_2_method_11_code, some .int, TX0, 3, by decide, rfl, by decide +kernel, rfl, zmem 557 (by decide +kernel) rfl, zmem 558 (by decide +kernel) rfl, zmem 559 (by decide +kernel) rfl⟩
theorem zq_6_216 : zcpOK zmt zcls zT "MindReaders" 216 [8, 1, 101] := zmem 565 (by decide +kernel) rfl
theorem zq_6_218 : zcpOK zmt zcls zT "MindReaders" 218 [8, 1, 102] := zmem 566 (by decide +kernel) rfl
theorem zq_6_220 : zcpOK zmt zcls zT "MindReaders" 220 [1, 181, 1, 3, 1, 21, 3] := ⟨⟨"MindReaders$Row", "isBelow", "(I)Z"⟩, prog_5_method_12_code, some .boolean, TX3, 2, by decide, rfl, by decide +kernel, rfl, zmem 567 (by decide +kernel) rfl, zmem 568 (by decide +kernel) rfl, zmem 569 (by decide +kernel) rfl⟩
theorem zq_6_223 : zcpOK zmt zcls zT "MindReaders" 223 [8, 1, 103] := zmem 571 (by decide +kernel) rfl
theorem zq_6_225 : zcpOK zmt zcls zT "MindReaders" 225 [1, 59, 4, 13, 3, 69, 6] := ⟨⟨"MindReaders", "waysNamed", "(LMindReaders$Code;III)J"⟩, prog_1_method_59_code, some .long, TX6, 14, by decide, rfl, by decide +kernel, rfl, zmem 572 (by decide +kernel) rfl, zmem 574 (by decide +kernel) rfl, zmem 13 (by decide +kernel) rfl⟩
theorem zq_6_229 : zcpOK zmt zcls zT "MindReaders" 229 [2, 63, 2, 6, 0, 0] := ⟨⟨"MindReaders", "power", "(JI)J"⟩, prog_1_method_63_code, some .long, by decide, rfl, by decide +kernel, Or.inl (zmem 576 (by decide +kernel) rfl), zmem 577 (by decide +kernel) rfl⟩
theorem zq_6_233 : zcpOK zmt zcls zT "MindReaders" 233 [1, 44, 0, 3, 1, 21, 6] := ⟨⟨"MindReaders", "readPage", "()Z"⟩, prog_1_method_44_code, some .boolean, TX6, 14, by decide, rfl, by decide +kernel, rfl, zmem 408 (by decide +kernel) rfl, zmem 410 (by decide +kernel) rfl, zmem 5 (by decide +kernel) rfl⟩
theorem zq_6_236 : zcpOK zmt zcls zT "MindReaders" 236 [1, 159, 0, 1, 1, 20, 1] := ⟨⟨"MindReaders$Notes", "size", "()I"⟩, prog_3_method_2_code, some .int, TX1, 2, by decide, rfl, by decide +kernel, rfl, zmem 591 (by decide +kernel) rfl, zmem 592 (by decide +kernel) rfl, zmem 593 (by decide +kernel) rfl⟩
theorem zq_6_237 : zcpOK zmt zcls zT "MindReaders" 237 [1, 162, 2, 3, 2, 43, 1] := ⟨⟨"MindReaders$Notes", "add", "(ILMindReaders$Row;)V"⟩, prog_3_method_5_code, none, TX1, 2, by decide, rfl, by decide +kernel, rfl, zmem 596 (by decide +kernel) rfl, zmem 597 (by decide +kernel) rfl, zmem 598 (by decide +kernel) rfl⟩
theorem zq_6_240 : zcpOK zmt zcls zT "MindReaders" 240 [1, 163, 0, 1, 1, 20, 1] := ⟨⟨"MindReaders$Notes", "wipe", "()V"⟩, prog_3_method_6_code, none, TX1, 2, by decide, rfl, by decide +kernel, rfl, zmem 607 (by decide +kernel) rfl, zmem 608 (by decide +kernel) rfl, zmem 609 (by decide +kernel) rfl⟩
theorem zq_6_241 : zcpOK zmt zcls zT "MindReaders" 241 [1, 57, 3, 6, 3, 69, 6] := ⟨⟨"MindReaders", "notesLet", "(LMindReaders$Code;II)Z"⟩, prog_1_method_57_code, some .boolean, TX6, 14, by decide, rfl, by decide +kernel, rfl, zmem 616 (by decide +kernel) rfl, zmem 618 (by decide +kernel) rfl, zmem 15 (by decide +kernel) rfl⟩
theorem zq_6_245 : zcpOK zmt zcls zT "MindReaders" 245 [1, 61, 1, 8, 1, 25, 6] := ⟨⟨"MindReaders", "waysAllSeen", "(I)J"⟩, prog_1_method_61_code, some .long, TX6, 14, by decide, rfl, by decide +kernel, rfl, zmem 638 (by decide +kernel) rfl, zmem 640 (by decide +kernel) rfl, zmem 16 (by decide +kernel) rfl⟩
theorem zq_6_248 : zcpOK zmt zcls zT "MindReaders" 248 [1, 56, 2, 5, 4, 88, 6] := ⟨⟨"MindReaders", "changeOf", "(LMindReaders$Code;LMindReaders$Code;)I"⟩, prog_1_method_56_code, some .int, TX6, 14, by decide, rfl, by decide +kernel, rfl, zmem 652 (by decide +kernel) rfl, zmem 654 (by decide +kernel) rfl, zmem 17 (by decide +kernel) rfl⟩
theorem zq_6_252 : zcpOK zmt zcls zT "MindReaders" 252 [2, 62, 2, 5, 0, 0] := ⟨⟨"MindReaders", "choices", "(II)J"⟩, prog_1_method_62_code, some .long, by decide, rfl, by decide +kernel, Or.inl (zmem 664 (by decide +kernel) rfl), zmem 665 (by decide +kernel) rfl⟩
theorem zq_6_256 : zcpOK zmt zcls zT "MindReaders" 256 [1, 65, 3, 8, 3, 69, 6] := ⟨⟨"MindReaders", "unlike", "(LMindReaders$Code;II)I"⟩, prog_1_method_65_code, some .int, TX6, 14, by decide, rfl, by decide +kernel, rfl, zmem 671 (by decide +kernel) rfl, zmem 673 (by decide +kernel) rfl, zmem 18 (by decide +kernel) rfl⟩
theorem zq_6_260 : zcpOK zmt zcls zT "MindReaders" 260 [2, 199, 1, 1, 0, 0] := ⟨⟨"java/lang/Integer", "bitCount", "(I)I"⟩, prog_10_method_49_code, some .int, by decide, rfl, by decide +kernel, Or.inl (zmem 642 (by decide +kernel) rfl), zmem 643 (by decide +kernel) rfl⟩
theorem zq_6_265 : zcpOK zmt zcls zT "MindReaders" 265 [1, 177, 1, 3, 1, 21, 3] := ⟨⟨"MindReaders$Row", "copyOf", "(LMindReaders$Row;)V"⟩, prog_5_method_8_code, none, TX3, 2, by decide, rfl, by decide +kernel, rfl, zmem 529 (by decide +kernel) rfl, zmem 530 (by decide +kernel) rfl, zmem 531 (by decide +kernel) rfl⟩
theorem zq_6_268 : zcpOK zmt zcls zT "MindReaders" 268 [1, 164, 1, 3, 3, 65, 1] := ⟨⟨"MindReaders$Notes", "copyOf", "(LMindReaders$Notes;)V"⟩, prog_3_method_7_code, none, TX1, 2, by decide, rfl, by decide +kernel, rfl, zmem 684 (by decide +kernel) rfl, zmem 685 (by decide +kernel) rfl, zmem 686 (by decide +kernel) rfl⟩
theorem zq_6_271 : zcpOK zmt zcls zT "MindReaders" 271 [0, 6, 8, 3, 0] := ⟨TX6, 14, rfl, by decide, rfl, zmem 194 (by decide +kernel) rfl, ⟨_, tyX6_ok 8 (by decide), rfl⟩, fun _ => rfl⟩
theorem zq_6_275 : zcpOK zmt zcls zT "MindReaders" 275 [8, 0, 479] := zmem 705 (by decide +kernel) rfl
theorem zq_6_277 : zcpOK zmt zcls zT "MindReaders" 277 [1, 8, 2, 3, 2, 43, 6] := ⟨⟨"MindReaders", "about", "(II)I"⟩, prog_1_method_8_code, some .int, TX6, 14, by decide, rfl, by decide +kernel, rfl, zmem 706 (by decide +kernel) rfl, zmem 350 (by decide +kernel) rfl, zmem 351 (by decide +kernel) rfl⟩
theorem zq_6_280 : zcpOK zmt zcls zT "MindReaders" 280 [2, 37, 2, 4, 0, 0] := ⟨⟨"MindReaders", "mix", "(JJ)J"⟩, prog_1_method_37_code, some .long, by decide, rfl, by decide +kernel, Or.inl (zmem 707 (by decide +kernel) rfl), zmem 708 (by decide +kernel) rfl⟩
theorem zq_6_284 : zcpOK zmt zcls zT "MindReaders" 284 [2, 38, 2, 6, 1, 23] := ⟨⟨"MindReaders", "mixRow", "(JLMindReaders$Row;)J"⟩, prog_1_method_38_code, some .long, by decide, rfl, by decide +kernel, Or.inl (zmem 711 (by decide +kernel) rfl), zmem 712 (by decide +kernel) rfl⟩
theorem zq_6_288 : zcpOK zmt zcls zT "MindReaders" 288 [1, 39, 3, 9, 5, 123, 6] := ⟨⟨"MindReaders", "mixCode", "(JILMindReaders$Code;)J"⟩, prog_1_method_39_code, some .long, TX6, 14, by decide, rfl, by decide +kernel, rfl, zmem 714 (by decide +kernel) rfl, zmem 716 (by decide +kernel) rfl, zmem 19 (by decide +kernel) rfl⟩
theorem zq_6_292 : zcpOK zmt zcls zT "MindReaders" 292 [1, 160, 1, 2, 1, 21, 1] := ⟨⟨"MindReaders$Notes", "thingOf", "(I)I"⟩, prog_3_method_3_code, some .int, TX1, 2, by decide, rfl, by decide +kernel, rfl, zmem 620 (by decide +kernel) rfl, zmem 621 (by decide +kernel) rfl, zmem 622 (by decide +kernel) rfl⟩
theorem zq_6_295 : zcpOK zmt zcls zT "MindReaders" 295 [1, 161, 1, 2, 1, 22, 1] := ⟨⟨"MindReaders$Notes", "rowOf", "(I)LMindReaders$Row;"⟩, prog_3_method_4_code, some (.object "MindReaders$Row"), TX1, 2, by decide, rfl, by decide +kernel, rfl, zmem 625 (by decide +kernel) rfl, zmem 626 (by decide +kernel) rfl, zmem 627 (by decide +kernel) rfl⟩
theorem zq_6_298 : zcpOK zmt zcls zT "MindReaders" 298 [1, 25, 0, 4, 4, 94, 6] := ⟨⟨"MindReaders", "which", "()I"⟩, prog_1_method_25_code, some .int, TX6, 14, by decide, rfl, by decide +kernel, rfl, zmem 723 (by decide +kernel) rfl, zmem 613 (by decide +kernel) rfl, zmem 614 (by decide +kernel) rfl⟩
theorem zq_6_301 : zcpOK zmt zcls zT "MindReaders" 301 [1, 35, 1, 2, 2, 44, 6] := ⟨⟨"MindReaders", "count", "(I)I"⟩, prog_1_method_35_code, some .int, TX6, 14, by decide, rfl, by decide +kernel, rfl, zmem 724 (by decide +kernel) rfl, zmem 698 (by decide +kernel) rfl, zmem 699 (by decide +kernel) rfl⟩
theorem zq_6_304 : zcpOK zmt zcls zT "MindReaders" 304 [8, 0, 31] := zmem 710 (by decide +kernel) rfl
theorem zq_6_306 : zcpOK zmt zcls zT "MindReaders" 306 [1, 11, 3, 5, 4, 88, 6] := ⟨⟨"MindReaders", "speech", "(III)I"⟩, prog_1_method_11_code, some .int, TX6, 14, by decide, rfl, by decide +kernel, rfl, zmem 718 (by decide +kernel) rfl, zmem 382 (by decide +kernel) rfl, zmem 383 (by decide +kernel) rfl⟩
theorem zq_6_310 : zcpOK zmt zcls zT "MindReaders" 310 [1, 13, 2, 5, 4, 86, 6] := ⟨⟨"MindReaders", "clear", "(II)I"⟩, prog_1_method_13_code, some .int, TX6, 14, by decide, rfl, by decide +kernel, rfl, zmem 719 (by decide +kernel) rfl, zmem 428 (by decide +kernel) rfl, zmem 429 (by decide +kernel) rfl⟩
theorem zq_6_313 : zcpOK zmt zcls zT "MindReaders" 313 [1, 17, 1, 6, 3, 66, 6] := ⟨⟨"MindReaders", "oddness", "(I)I"⟩, prog_1_method_17_code, some .int, TX6, 14, by decide, rfl, by decide +kernel, rfl, zmem 720 (by decide +kernel) rfl, zmem 498 (by decide +kernel) rfl, zmem 499 (by decide +kernel) rfl⟩
theorem zq_6_316 : zcpOK zmt zcls zT "MindReaders" 316 [1, 20, 1, 3, 3, 68, 6] := ⟨⟨"MindReaders", "apart", "(I)I"⟩, prog_1_method_20_code, some .int, TX6, 14, by decide, rfl, by decide +kernel, rfl, zmem 721 (by decide +kernel) rfl, zmem 542 (by decide +kernel) rfl, zmem 543 (by decide +kernel) rfl⟩
theorem zq_6_319 : zcpOK zmt zcls zT "MindReaders" 319 [1, 32, 1, 5, 4, 96, 6] := ⟨⟨"MindReaders", "stop", "(I)I"⟩, prog_1_method_32_code, some .int, TX6, 14, by decide, rfl, by decide +kernel, rfl, zmem 722 (by decide +kernel) rfl, zmem 677 (by decide +kernel) rfl, zmem 678 (by decide +kernel) rfl⟩
theorem zq_6_322 : zcpOK zmt zcls zT "MindReaders" 322 [8, 0, 255] := zmem 239 (by decide +kernel) rfl
theorem zq_6_324 : zcpOK zmt zcls zT "MindReaders" 324 [1, 198, 3, 7, 2, 43, 5] := ⟨⟨"MindReaders$Signals", "makePlain", "(LMindReaders$Row;ILMindReaders$Row;)V"⟩, prog_7_method_12_code, none, TX5, 4, by decide, rfl, by decide +kernel, rfl, zmem 412 (by decide +kernel) rfl, zmem 300 (by decide +kernel) rfl, zmem 301 (by decide +kernel) rfl⟩
theorem zq_6_327 : zcpOK zmt zcls zT "MindReaders" 327 [2, 201, 2, 2, 0, 0] := ⟨⟨"java/lang/Math", "min", "(II)I"⟩, prog_11_method_69_code, some .int, by decide, rfl, by decide +kernel, Or.inl (zmem 489 (by decide +kernel) rfl), zmem 467 (by decide +kernel) rfl⟩
theorem zq_6_332 : zcpOK zmt zcls zT "MindReaders" 332 [1, 196, 1, 4, 2, 43, 5] := ⟨⟨"MindReaders$Signals", "secondsOfAll", "(LMindReaders$Row;)I"⟩, prog_7_method_10_code, some .int, TX5, 4, by decide, rfl, by decide +kernel, rfl, zmem 395 (by decide +kernel) rfl, zmem 396 (by decide +kernel) rfl, zmem 397 (by decide +kernel) rfl⟩
theorem zq_6_335 : zcpOK zmt zcls zT "MindReaders" 335 [2, 55, 4, 4, 0, 0] := ⟨⟨"MindReaders", "isAhead", "(IIII)Z"⟩, prog_1_method_55_code, some .boolean, by decide, rfl, by decide +kernel, Or.inl (zmem 514 (by decide +kernel) rfl), zmem 515 (by decide +kernel) rfl⟩
theorem zq_6_339 : zcpOK zmt zcls zT "MindReaders" 339 [1, 54, 3, 6, 4, 88, 6] := ⟨⟨"MindReaders", "rankByLong", "(LMindReaders$Code;II)I"⟩, prog_1_method_54_code, some .int, TX6, 14, by decide, rfl, by decide +kernel, rfl, zmem 517 (by decide +kernel) rfl, zmem 519 (by decide +kernel) rfl, zmem 11 (by decide +kernel) rfl⟩
theorem zq_6_342 : zcpOK zmt zcls zT "MindReaders" 342 [1, 178, 1, 2, 2, 43, 3] := ⟨⟨"MindReaders$Row", "isLike", "(LMindReaders$Row;)Z"⟩, prog_5_method_9_code, some .boolean, TX3, 2, by decide, rfl, by decide +kernel, rfl, zmem 629 (by decide +kernel) rfl, zmem 418 (by decide +kernel) rfl, zmem 419 (by decide +kernel) rfl⟩
theorem zq_6_346 : zcpOK zmt zcls zT "MindReaders" 346 [1, 183, 0, 3, 1, 22, 3] := ⟨⟨"MindReaders$Row", "takeLeast", "()I"⟩, prog_5_method_14_code, some .int, TX3, 2, by decide, rfl, by decide +kernel, rfl, zmem 535 (by decide +kernel) rfl, zmem 536 (by decide +kernel) rfl, zmem 537 (by decide +kernel) rfl⟩
theorem zq_6_349 : zcpOK zmt zcls zT "MindReaders" 349 [1, 60, 3, 7, 1, 21, 6] := ⟨⟨"MindReaders", "waysHeard", "(LMindReaders$Row;II)J"⟩, prog_1_method_60_code, some .long, TX6, 14, by decide, rfl, by decide +kernel, rfl, zmem 579 (by decide +kernel) rfl, zmem 581 (by decide +kernel) rfl, zmem 14 (by decide +kernel) rfl⟩
theorem zq_6_353 : zcpOK zmt zcls zT "MindReaders" 353 [1, 184, 1, 4, 1, 22, 3] := ⟨⟨"MindReaders$Row", "turn", "(I)V"⟩, prog_5_method_15_code, none, TX3, 2, by decide, rfl, by decide +kernel, rfl, zmem 583 (by decide +kernel) rfl, zmem 584 (by decide +kernel) rfl, zmem 585 (by decide +kernel) rfl⟩
theorem zq_6_356 : zcpOK zmt zcls zT "MindReaders" 356 [1, 186, 1, 3, 0, 0, 4] := ⟨⟨"MindReaders$Rows", "row", "(I)LMindReaders$Row;"⟩, prog_6_method_2_code, some (.object "MindReaders$Row"), TX4, 2, by decide, rfl, by decide +kernel, rfl, zmem 675 (by decide +kernel) rfl, zmem 287 (by decide +kernel) rfl, zmem 288 (by decide +kernel) rfl⟩
theorem zq_6_100025 : zcpOK zmt zcls zT "MindReaders" 100025 [6, 0] := ⟨RX0, TX0, 3, rfl, zmem 118 (by decide +kernel) rfl, zmem 119 (by decide +kernel) rfl⟩
theorem zcp_6_ok : ∀ q ∈ zcp_6, zcpOK zmt zcls zT "MindReaders" q.1 q.2 := List.forall_mem_cons.mpr ⟨zq_6_3, List.forall_mem_cons.mpr ⟨zq_6_9, List.forall_mem_cons.mpr ⟨zq_6_11, List.forall_mem_cons.mpr ⟨zq_6_12, List.forall_mem_cons.mpr ⟨zq_6_16, List.forall_mem_cons.mpr ⟨zq_6_18, List.forall_mem_cons.mpr ⟨zq_6_21, List.forall_mem_cons.mpr ⟨zq_6_25, List.forall_mem_cons.mpr ⟨zq_6_27, List.forall_mem_cons.mpr ⟨zq_6_31, List.forall_mem_cons.mpr ⟨zq_6_34, List.forall_mem_cons.mpr ⟨zq_6_36, List.forall_mem_cons.mpr ⟨zq_6_37, List.forall_mem_cons.mpr ⟨zq_6_41, List.forall_mem_cons.mpr ⟨zq_6_44, List.forall_mem_cons.mpr ⟨zq_6_47, List.forall_mem_cons.mpr ⟨zq_6_50, List.forall_mem_cons.mpr ⟨zq_6_53, List.forall_mem_cons.mpr ⟨zq_6_56, List.forall_mem_cons.mpr ⟨zq_6_58, List.forall_mem_cons.mpr ⟨zq_6_61, List.forall_mem_cons.mpr ⟨zq_6_65, List.forall_mem_cons.mpr ⟨zq_6_67, List.forall_mem_cons.mpr ⟨zq_6_68, List.forall_mem_cons.mpr ⟨zq_6_72, List.forall_mem_cons.mpr ⟨zq_6_73, List.forall_mem_cons.mpr ⟨zq_6_77, List.forall_mem_cons.mpr ⟨zq_6_81, List.forall_mem_cons.mpr ⟨zq_6_85, List.forall_mem_cons.mpr ⟨zq_6_88, List.forall_mem_cons.mpr ⟨zq_6_91, List.forall_mem_cons.mpr ⟨zq_6_94, List.forall_mem_cons.mpr ⟨zq_6_98, List.forall_mem_cons.mpr ⟨zq_6_101, List.forall_mem_cons.mpr ⟨zq_6_105, List.forall_mem_cons.mpr ⟨zq_6_109, List.forall_mem_cons.mpr ⟨zq_6_113, List.forall_mem_cons.mpr ⟨zq_6_117, List.forall_mem_cons.mpr ⟨zq_6_120, List.forall_mem_cons.mpr ⟨zq_6_124, List.forall_mem_cons.mpr ⟨zq_6_128, List.forall_mem_cons.mpr ⟨zq_6_132, List.forall_mem_cons.mpr ⟨zq_6_135, List.forall_mem_cons.mpr ⟨zq_6_138, List.forall_mem_cons.mpr ⟨zq_6_141, List.forall_mem_cons.mpr ⟨zq_6_144, List.forall_mem_cons.mpr ⟨zq_6_147, List.forall_mem_cons.mpr ⟨zq_6_150, List.forall_mem_cons.mpr ⟨zq_6_153, List.forall_mem_cons.mpr ⟨zq_6_154, List.forall_mem_cons.mpr ⟨zq_6_158, List.forall_mem_cons.mpr ⟨zq_6_161, List.forall_mem_cons.mpr ⟨zq_6_165, List.forall_mem_cons.mpr ⟨zq_6_169, List.forall_mem_cons.mpr ⟨zq_6_173, List.forall_mem_cons.mpr ⟨zq_6_176, List.forall_mem_cons.mpr ⟨zq_6_180, List.forall_mem_cons.mpr ⟨zq_6_183, List.forall_mem_cons.mpr ⟨zq_6_187, List.forall_mem_cons.mpr ⟨zq_6_190, List.forall_mem_cons.mpr ⟨zq_6_193, List.forall_mem_cons.mpr ⟨zq_6_196, List.forall_mem_cons.mpr ⟨zq_6_200, List.forall_mem_cons.mpr ⟨zq_6_203, List.forall_mem_cons.mpr ⟨zq_6_206, List.forall_mem_cons.mpr ⟨zq_6_210, List.forall_mem_cons.mpr ⟨zq_6_213, List.forall_mem_cons.mpr ⟨zq_6_216, List.forall_mem_cons.mpr ⟨zq_6_218, List.forall_mem_cons.mpr ⟨zq_6_220, List.forall_mem_cons.mpr ⟨zq_6_223, List.forall_mem_cons.mpr ⟨zq_6_225, List.forall_mem_cons.mpr ⟨zq_6_229, List.forall_mem_cons.mpr ⟨zq_6_233, List.forall_mem_cons.mpr ⟨zq_6_236, List.forall_mem_cons.mpr ⟨zq_6_237, List.forall_mem_cons.mpr ⟨zq_6_240, List.forall_mem_cons.mpr ⟨zq_6_241, List.forall_mem_cons.mpr ⟨zq_6_245, List.forall_mem_cons.mpr ⟨zq_6_248, List.forall_mem_cons.mpr ⟨zq_6_252, List.forall_mem_cons.mpr ⟨zq_6_256, List.forall_mem_cons.mpr ⟨zq_6_260, List.forall_mem_cons.mpr ⟨zq_6_265, List.forall_mem_cons.mpr ⟨zq_6_268, List.forall_mem_cons.mpr ⟨zq_6_271, List.forall_mem_cons.mpr ⟨zq_6_275, List.forall_mem_cons.mpr ⟨zq_6_277, List.forall_mem_cons.mpr ⟨zq_6_280, List.forall_mem_cons.mpr ⟨zq_6_284, List.forall_mem_cons.mpr ⟨zq_6_288, List.forall_mem_cons.mpr ⟨zq_6_292, List.forall_mem_cons.mpr ⟨zq_6_295, List.forall_mem_cons.mpr ⟨zq_6_298, List.forall_mem_cons.mpr ⟨zq_6_301, List.forall_mem_cons.mpr ⟨zq_6_304, List.forall_mem_cons.mpr ⟨zq_6_306, List.forall_mem_cons.mpr ⟨zq_6_310, List.forall_mem_cons.mpr ⟨zq_6_313, List.forall_mem_cons.mpr ⟨zq_6_316, List.forall_mem_cons.mpr ⟨zq_6_319, List.forall_mem_cons.mpr ⟨zq_6_322, List.forall_mem_cons.mpr ⟨zq_6_324, List.forall_mem_cons.mpr ⟨zq_6_327, List.forall_mem_cons.mpr ⟨zq_6_332, List.forall_mem_cons.mpr ⟨zq_6_335, List.forall_mem_cons.mpr ⟨zq_6_339, List.forall_mem_cons.mpr ⟨zq_6_342, List.forall_mem_cons.mpr ⟨zq_6_346, List.forall_mem_cons.mpr ⟨zq_6_349, List.forall_mem_cons.mpr ⟨zq_6_353, List.forall_mem_cons.mpr ⟨zq_6_356, List.forall_mem_cons.mpr ⟨zq_6_100025, fun _ h => absurd h List.not_mem_nil⟩⟩⟩⟩⟩⟩⟩⟩⟩⟩⟩⟩⟩⟩⟩⟩⟩⟩⟩⟩⟩⟩⟩⟩⟩⟩⟩⟩⟩⟩⟩⟩⟩⟩⟩⟩⟩⟩⟩⟩⟩⟩⟩⟩⟩⟩⟩⟩⟩⟩⟩⟩⟩⟩⟩⟩⟩⟩⟩⟩⟩⟩⟩⟩⟩⟩⟩⟩⟩⟩⟩⟩⟩⟩⟩⟩⟩⟩⟩⟩⟩⟩⟩⟩⟩⟩⟩⟩⟩⟩⟩⟩⟩⟩⟩⟩⟩⟩⟩⟩⟩⟩⟩⟩⟩⟩⟩⟩⟩⟩⟩⟩⟩
/-- MindReadersModel -/
def zcp_7 : List (Nat × List Nat) := [(1, [4]), (7, [0, 7, 0, 2, 1]), (13, [0, 7, 4, 2, 1]), (16, [0, 7, 6, 2, 1]), (19, [0, 7, 7, 2, 1]), (22, [0, 7, 9, 2, 1]), (25, [0, 7, 11, 2, 1]), (28, [0, 7, 12, 2, 1]), (31, [0, 7, 14, 2, 1]), (34, [0, 7, 15, 2, 1]), (37, [0, 7, 17, 2, 1]), (40, [0, 7, 19, 2, 1]), (43, [0, 7, 20, 2, 1]), (47, [0, 7, 21, 2, 1]), (50, [0, 7, 24, 2, 1]), (53, [0, 7, 25, 2, 1]), (56, [0, 7, 22, 0, 0]), (60, [8, 0, 255]), (62, [0, 7, 1, 0, 0]), (65, [0, 7, 3, 0, 0]), (68, [0, 7, 2, 0, 0]), (71, [8, 0, 97]), (73, [8, 0, 104]), (75, [2, 67, 3, 6, 0, 0]), (79, [1, 70, 1, 3, 1, 25, 7]), (83, [1, 71, 0, 2, 2, 47, 7]), (87, [0, 7, 5, 0, 0]), (90, [8, 0, 4]), (92, [0, 7, 8, 0, 0]), (95, [8, 0, 9]), (97, [1, 76, 1, 2, 1, 25, 7]), (100, [8, 0, 3]), (102, [8, 0, 99]), (104, [0, 7, 10, 0, 0]), (107, [1, 80, 1, 2, 1, 25, 7]), (110, [1, 82, 1, 2, 2, 46, 7]), (114, [0, 7, 13, 0, 0]), (117, [1, 85, 1, 3, 3, 67, 7]), (121, [1, 86, 3, 6, 4, 89, 7]), (125, [1, 83, 1, 2, 2, 46, 7]), (128, [8, 0, 5]), (130, [8, 0, 11]), (132, [8, 0, 20]), (134, [1, 88, 2, 6, 3, 67, 7]), (138, [1, 74, 1, 2, 1, 25, 7]), (141, [1, 89, 3, 5, 5, 114, 7]), (145, [1, 91, 3, 6, 0, 0, 7]), (149, [7, 0, 1000000]), (150, [1, 94, 1, 4, 0, 0, 7]), (153, [1, 87, 2, 5, 5, 114, 7]), (157, [1, 93, 0, 3, 4, 89, 7]), (161, [1, 95, 1, 6, 1, 23, 7]), (164, [1, 92, 2, 3, 1, 25, 7]), (168, [8, 0, 2]), (170, [1, 97, 1, 4, 6, 138, 7]), (173, [0, 7, 16, 0, 0]), (176, [1, 101, 3, 5, 0, 0, 7]), (179, [1, 100, 3, 8, 0, 0, 7]), (182, [1, 102, 4, 7, 1, 24, 7]), (186, [1, 103, 1, 10, 6, 138, 7]), (189, [2, 106, 2, 10, 0, 0]), (193, [2, 108, 1, 1, 1, 25]), (196, [1, 105, 1, 2, 0, 0, 7]), (199, [1, 109, 1, 4, 0, 0, 7]), (202, [2, 107, 3, 7, 1, 29]), (206, [1, 84, 1, 2, 2, 46, 7]), (209, [1, 111, 1, 6, 3, 67, 7]), (212, [8, 0, 10]), (214, [8, 0, 17]), (216, [1, 113, 2, 5, 0, 0, 7]), (219, [1, 114, 3, 9, 4, 92, 7]), (222, [1, 116, 1, 4, 0, 0, 7]), (225, [8, 0, 8]), (227, [1, 117, 1, 7, 1, 23, 7]), (230, [1, 119, 1, 7, 6, 138, 7]), (233, [8, 1, 101]), (235, [8, 1, 102]), (237, [1, 122, 2, 5, 0, 0, 7]), (240, [8, 1, 103]), (242, [0, 7, 18, 0, 0]), (245, [1, 126, 3, 5, 4, 89, 7]), (248, [1, 127, 0, 5, 6, 138, 7]), (251, [8, 0, 6]), (253, [1, 131, 3, 8, 0, 0, 7]), (256, [1, 132, 2, 6, 4, 92, 7]), (259, [8, 0, 12]), (261, [1, 136, 2, 7, 6, 138, 7]), (264, [1, 138, 1, 7, 7, 164, 7]), (267, [0, 7, 23, 0, 0]), (270, [1, 142, 1, 2, 1, 23, 7]), (273, [8, 0, 31]), (275, [0, 7, 26, 1, 0]), (279, [1, 144, 1, 3, 0, 0, 7]), (283, [8, 0, 479]), (285, [1, 145, 1, 4, 8, 190, 7])]
theorem zq_7_1 : zcpOK zmt zcls zT "MindReadersModel" 1 [4] := ⟨zmem 730 (by decide +kernel) rfl, zmem 78 (by decide +kernel) rfl, zmem 79 (by decide +kernel) rfl⟩
theorem zq_7_7 : zcpOK zmt zcls zT "MindReadersModel" 7 [0, 7, 0, 2, 1] := ⟨TX7, 27, rfl, by decide, rfl, zmem 731 (by decide +kernel) rfl, ⟨_, tyX7_ok 0 (by decide), Or.inr ⟨_, rfl⟩⟩, fun h => absurd h (by decide)⟩
theorem zq_7_13 : zcpOK zmt zcls zT "MindReadersModel" 13 [0, 7, 4, 2, 1] := ⟨TX7, 27, rfl, by decide, rfl, zmem 735 (by decide +kernel) rfl, ⟨_, tyX7_ok 4 (by decide), Or.inr ⟨_, rfl⟩⟩, fun h => absurd h (by decide)⟩
theorem zq_7_16 : zcpOK zmt zcls zT "MindReadersModel" 16 [0, 7, 6, 2, 1] := ⟨TX7, 27, rfl, by decide, rfl, zmem 737 (by decide +kernel) rfl, ⟨_, tyX7_ok 6 (by decide), Or.inr ⟨_, rfl⟩⟩, fun h => absurd h (by decide)⟩
theorem zq_7_19 : zcpOK zmt zcls zT "MindReadersModel" 19 [0, 7, 7, 2, 1] := ⟨TX7, 27, rfl, by decide, rfl, zmem 738 (by decide +kernel) rfl, ⟨_, tyX7_ok 7 (by decide), Or.inr ⟨_, rfl⟩⟩, fun h => absurd h (by decide)⟩
theorem zq_7_22 : zcpOK zmt zcls zT "MindReadersModel" 22 [0, 7, 9, 2, 1] := ⟨TX7, 27, rfl, by decide, rfl, zmem 740 (by decide +kernel) rfl, ⟨_, tyX7_ok 9 (by decide), Or.inr ⟨_, rfl⟩⟩, fun h => absurd h (by decide)⟩
theorem zq_7_25 : zcpOK zmt zcls zT "MindReadersModel" 25 [0, 7, 11, 2, 1] := ⟨TX7, 27, rfl, by decide, rfl, zmem 742 (by decide +kernel) rfl, ⟨_, tyX7_ok 11 (by decide), Or.inr ⟨_, rfl⟩⟩, fun h => absurd h (by decide)⟩
theorem zq_7_28 : zcpOK zmt zcls zT "MindReadersModel" 28 [0, 7, 12, 2, 1] := ⟨TX7, 27, rfl, by decide, rfl, zmem 743 (by decide +kernel) rfl, ⟨_, tyX7_ok 12 (by decide), Or.inr ⟨_, rfl⟩⟩, fun h => absurd h (by decide)⟩
theorem zq_7_31 : zcpOK zmt zcls zT "MindReadersModel" 31 [0, 7, 14, 2, 1] := ⟨TX7, 27, rfl, by decide, rfl, zmem 745 (by decide +kernel) rfl, ⟨_, tyX7_ok 14 (by decide), Or.inr ⟨_, rfl⟩⟩, fun h => absurd h (by decide)⟩
theorem zq_7_34 : zcpOK zmt zcls zT "MindReadersModel" 34 [0, 7, 15, 2, 1] := ⟨TX7, 27, rfl, by decide, rfl, zmem 746 (by decide +kernel) rfl, ⟨_, tyX7_ok 15 (by decide), Or.inr ⟨_, rfl⟩⟩, fun h => absurd h (by decide)⟩
theorem zq_7_37 : zcpOK zmt zcls zT "MindReadersModel" 37 [0, 7, 17, 2, 1] := ⟨TX7, 27, rfl, by decide, rfl, zmem 748 (by decide +kernel) rfl, ⟨_, tyX7_ok 17 (by decide), Or.inr ⟨_, rfl⟩⟩, fun h => absurd h (by decide)⟩
theorem zq_7_40 : zcpOK zmt zcls zT "MindReadersModel" 40 [0, 7, 19, 2, 1] := ⟨TX7, 27, rfl, by decide, rfl, zmem 750 (by decide +kernel) rfl, ⟨_, tyX7_ok 19 (by decide), Or.inr ⟨_, rfl⟩⟩, fun h => absurd h (by decide)⟩
theorem zq_7_43 : zcpOK zmt zcls zT "MindReadersModel" 43 [0, 7, 20, 2, 1] := ⟨TX7, 27, rfl, by decide, rfl, zmem 751 (by decide +kernel) rfl, ⟨_, tyX7_ok 20 (by decide), Or.inr ⟨_, rfl⟩⟩, fun h => absurd h (by decide)⟩
theorem zq_7_47 : zcpOK zmt zcls zT "MindReadersModel" 47 [0, 7, 21, 2, 1] := ⟨TX7, 27, rfl, by decide, rfl, zmem 752 (by decide +kernel) rfl, ⟨_, tyX7_ok 21 (by decide), Or.inr ⟨_, rfl⟩⟩, fun h => absurd h (by decide)⟩
theorem zq_7_50 : zcpOK zmt zcls zT "MindReadersModel" 50 [0, 7, 24, 2, 1] := ⟨TX7, 27, rfl, by decide, rfl, zmem 755 (by decide +kernel) rfl, ⟨_, tyX7_ok 24 (by decide), Or.inr ⟨_, rfl⟩⟩, fun h => absurd h (by decide)⟩
theorem zq_7_53 : zcpOK zmt zcls zT "MindReadersModel" 53 [0, 7, 25, 2, 1] := ⟨TX7, 27, rfl, by decide, rfl, zmem 756 (by decide +kernel) rfl, ⟨_, tyX7_ok 25 (by decide), Or.inr ⟨_, rfl⟩⟩, fun h => absurd h (by decide)⟩
theorem zq_7_56 : zcpOK zmt zcls zT "MindReadersModel" 56 [0, 7, 22, 0, 0] := ⟨TX7, 27, rfl, by decide, rfl, zmem 753 (by decide +kernel) rfl, ⟨_, tyX7_ok 22 (by decide), rfl⟩, fun _ => rfl⟩
theorem zq_7_60 : zcpOK zmt zcls zT "MindReadersModel" 60 [8, 0, 255] := zmem 818 (by decide +kernel) rfl
theorem zq_7_62 : zcpOK zmt zcls zT "MindReadersModel" 62 [0, 7, 1, 0, 0] := ⟨TX7, 27, rfl, by decide, rfl, zmem 732 (by decide +kernel) rfl, ⟨_, tyX7_ok 1 (by decide), rfl⟩, fun _ => rfl⟩
theorem zq_7_65 : zcpOK zmt zcls zT "MindReadersModel" 65 [0, 7, 3, 0, 0] := ⟨TX7, 27, rfl, by decide, rfl, zmem 734 (by decide +kernel) rfl, ⟨_, tyX7_ok 3 (by decide), rfl⟩, fun _ => rfl⟩
theorem zq_7_68 : zcpOK zmt zcls zT "MindReadersModel" 68 [0, 7, 2, 0, 0] := ⟨TX7, 27, rfl, by decide, rfl, zmem 733 (by decide +kernel) rfl, ⟨_, tyX7_ok 2 (by decide), rfl⟩, fun _ => rfl⟩
theorem zq_7_71 : zcpOK zmt zcls zT "MindReadersModel" 71 [8, 0, 97] := zmem 835 (by decide +kernel) rfl
theorem zq_7_73 : zcpOK zmt zcls zT "MindReadersModel" 73 [8, 0, 104] := zmem 836 (by decide +kernel) rfl
theorem zq_7_75 : zcpOK zmt zcls zT "MindReadersModel" 75 [2, 67, 3, 6, 0, 0] := ⟨⟨"MindReadersModel", "in", "(JJJ)Z"⟩, prog_9_method_2_code, some .boolean, by decide, rfl, by decide +kernel, Or.inl (zmem 837 (by decide +kernel) rfl), zmem 838 (by decide +kernel) rfl⟩
theorem zq_7_79 : zcpOK zmt zcls zT "MindReadersModel" 79 [1, 70, 1, 3, 1, 25, 7] := ⟨⟨"MindReadersModel", "go", "(I)Z"⟩, prog_9_method_5_code, some .boolean, TX7, 27, by decide, rfl, by decide +kernel, rfl, zmem 831 (by decide +kernel) rfl, zmem 833 (by decide +kernel) rfl, zmem 21 (by decide +kernel) rfl⟩
theorem zq_7_83 : zcpOK zmt zcls zT "MindReadersModel" 83 [1, 71, 0, 2, 2, 47, 7] := ⟨⟨"MindReadersModel", "faultOf", "()I"⟩, prog_9_method_6_code, some .int, TX7, 27, by decide, rfl, by decide +kernel, rfl, zmem 827 (by decide +kernel) rfl, zmem 829 (by decide +kernel) rfl, zmem 20 (by decide +kernel) rfl⟩
theorem zq_7_87 : zcpOK zmt zcls zT "MindReadersModel" 87 [0, 7, 5, 0, 0] := ⟨TX7, 27, rfl, by decide, rfl, zmem 736 (by decide +kernel) rfl, ⟨_, tyX7_ok 5 (by decide), rfl⟩, fun _ => rfl⟩
theorem zq_7_90 : zcpOK zmt zcls zT "MindReadersModel" 90 [8, 0, 4] := zmem 848 (by decide +kernel) rfl
theorem zq_7_92 : zcpOK zmt zcls zT "MindReadersModel" 92 [0, 7, 8, 0, 0] := ⟨TX7, 27, rfl, by decide, rfl, zmem 739 (by decide +kernel) rfl, ⟨_, tyX7_ok 8 (by decide), rfl⟩, fun _ => rfl⟩
theorem zq_7_95 : zcpOK zmt zcls zT "MindReadersModel" 95 [8, 0, 9] := zmem 849 (by decide +kernel) rfl
theorem zq_7_97 : zcpOK zmt zcls zT "MindReadersModel" 97 [1, 76, 1, 2, 1, 25, 7] := ⟨⟨"MindReadersModel", "isSignal", "(I)Z"⟩, prog_9_method_11_code, some .boolean, TX7, 27, by decide, rfl, by decide +kernel, rfl, zmem 854 (by decide +kernel) rfl, zmem 856 (by decide +kernel) rfl, zmem 22 (by decide +kernel) rfl⟩
theorem zq_7_100 : zcpOK zmt zcls zT "MindReadersModel" 100 [8, 0, 3] := zmem 862 (by decide +kernel) rfl
theorem zq_7_102 : zcpOK zmt zcls zT "MindReadersModel" 102 [8, 0, 99] := zmem 867 (by decide +kernel) rfl
theorem zq_7_104 : zcpOK zmt zcls zT "MindReadersModel" 104 [0, 7, 10, 0, 0] := ⟨TX7, 27, rfl, by decide, rfl, zmem 741 (by decide +kernel) rfl, ⟨_, tyX7_ok 10 (by decide), rfl⟩, fun _ => rfl⟩
theorem zq_7_107 : zcpOK zmt zcls zT "MindReadersModel" 107 [1, 80, 1, 2, 1, 25, 7] := ⟨⟨"MindReadersModel", "isThing", "(I)Z"⟩, prog_9_method_15_code, some .boolean, TX7, 27, by decide, rfl, by decide +kernel, rfl, zmem 872 (by decide +kernel) rfl, zmem 874 (by decide +kernel) rfl, zmem 23 (by decide +kernel) rfl⟩
theorem zq_7_110 : zcpOK zmt zcls zT "MindReadersModel" 110 [1, 82, 1, 2, 2, 46, 7] := ⟨⟨"MindReadersModel", "kindOf", "(I)I"⟩, prog_9_method_17_code, some .int, TX7, 27, by decide, rfl, by decide +kernel, rfl, zmem 897 (by decide +kernel) rfl, zmem 899 (by decide +kernel) rfl, zmem 28 (by decide +kernel) rfl⟩
theorem zq_7_114 : zcpOK zmt zcls zT "MindReadersModel" 114 [0, 7, 13, 0, 0] := ⟨TX7, 27, rfl, by decide, rfl, zmem 744 (by decide +kernel) rfl, ⟨_, tyX7_ok 13 (by decide), rfl⟩, fun _ => rfl⟩
theorem zq_7_117 : zcpOK zmt zcls zT "MindReadersModel" 117 [1, 85, 1, 3, 3, 67, 7] := ⟨⟨"MindReadersModel", "stand", "(I)V"⟩, prog_9_method_20_code, none, TX7, 27, by decide, rfl, by decide +kernel, rfl, zmem 893 (by decide +kernel) rfl, zmem 895 (by decide +kernel) rfl, zmem 27 (by decide +kernel) rfl⟩
theorem zq_7_121 : zcpOK zmt zcls zT "MindReadersModel" 121 [1, 86, 3, 6, 4, 89, 7] := ⟨⟨"MindReadersModel", "layPlain", "(III)V"⟩, prog_9_method_21_code, none, TX7, 27, by decide, rfl, by decide +kernel, rfl, zmem 889 (by decide +kernel) rfl, zmem 891 (by decide +kernel) rfl, zmem 26 (by decide +kernel) rfl⟩
theorem zq_7_125 : zcpOK zmt zcls zT "MindReadersModel" 125 [1, 83, 1, 2, 2, 46, 7] := ⟨⟨"MindReadersModel", "secondsOf", "(I)I"⟩, prog_9_method_18_code, some .int, TX7, 27, by decide, rfl, by decide +kernel, rfl, zmem 907 (by decide +kernel) rfl, zmem 909 (by decide +kernel) rfl, zmem 30 (by decide +kernel) rfl⟩
theorem zq_7_128 : zcpOK zmt zcls zT "MindReadersModel" 128 [8, 0, 5] := zmem 888 (by decide +kernel) rfl
theorem zq_7_130 : zcpOK zmt zcls zT "MindReadersModel" 130 [8, 0, 11] := zmem 901 (by decide +kernel) rfl
theorem zq_7_132 : zcpOK zmt zcls zT "MindReadersModel" 132 [8, 0, 20] := zmem 902 (by decide +kernel) rfl
theorem zq_7_134 : zcpOK zmt zcls zT "MindReadersModel" 134 [1, 88, 2, 6, 3, 67, 7] := ⟨⟨"MindReadersModel", "longOf", "(II)I"⟩, prog_9_method_23_code, some .int, TX7, 27, by decide, rfl, by decide +kernel, rfl, zmem 903 (by decide +kernel) rfl, zmem 905 (by decide +kernel) rfl, zmem 29 (by decide +kernel) rfl⟩
theorem zq_7_138 : zcpOK zmt zcls zT "MindReadersModel" 138 [1, 74, 1, 2, 1, 25, 7] := ⟨⟨"MindReadersModel", "isCode", "(I)Z"⟩, prog_9_method_9_code, some .boolean, TX7, 27, by decide, rfl, by decide +kernel, rfl, zmem 880 (by decide +kernel) rfl, zmem 882 (by decide +kernel) rfl, zmem 24 (by decide +kernel) rfl⟩
theorem zq_7_141 : zcpOK zmt zcls zT "MindReadersModel" 141 [1, 89, 3, 5, 5, 114, 7] := ⟨⟨"MindReadersModel", "speechOf", "(III)I"⟩, prog_9_method_24_code, some .int, TX7, 27, by decide, rfl, by decide +kernel, rfl, zmem 884 (by decide +kernel) rfl, zmem 886 (by decide +kernel) rfl, zmem 25 (by decide +kernel) rfl⟩
theorem zq_7_145 : zcpOK zmt zcls zT "MindReadersModel" 145 [1, 91, 3, 6, 0, 0, 7] := ⟨⟨"MindReadersModel", "isStart", "(III)Z"⟩, prog_9_method_26_code, some .boolean, TX7, 27, by decide, rfl, by decide +kernel, rfl, zmem 945 (by decide +kernel) rfl, zmem 947 (by decide +kernel) rfl, zmem 37 (by decide +kernel) rfl⟩
theorem zq_7_149 : zcpOK zmt zcls zT "MindReadersModel" 149 [7, 0, 1000000] := zmem 927 (by decide +kernel) rfl
theorem zq_7_150 : zcpOK zmt zcls zT "MindReadersModel" 150 [1, 94, 1, 4, 0, 0, 7] := ⟨⟨"MindReadersModel", "differs", "(I)I"⟩, prog_9_method_29_code, some .int, TX7, 27, by decide, rfl, by decide +kernel, rfl, zmem 928 (by decide +kernel) rfl, zmem 930 (by decide +kernel) rfl, zmem 34 (by decide +kernel) rfl⟩
theorem zq_7_153 : zcpOK zmt zcls zT "MindReadersModel" 153 [1, 87, 2, 5, 5, 114, 7] := ⟨⟨"MindReadersModel", "layAll", "(II)V"⟩, prog_9_method_22_code, none, TX7, 27, by decide, rfl, by decide +kernel, rfl, zmem 915 (by decide +kernel) rfl, zmem 917 (by decide +kernel) rfl, zmem 31 (by decide +kernel) rfl⟩
theorem zq_7_157 : zcpOK zmt zcls zT "MindReadersModel" 157 [1, 93, 0, 3, 4, 89, 7] := ⟨⟨"MindReadersModel", "layPage", "()Z"⟩, prog_9_method_28_code, some .boolean, TX7, 27, by decide, rfl, by decide +kernel, rfl, zmem 919 (by decide +kernel) rfl, zmem 921 (by decide +kernel) rfl, zmem 32 (by decide +kernel) rfl⟩
theorem zq_7_161 : zcpOK zmt zcls zT "MindReadersModel" 161 [1, 95, 1, 6, 1, 23, 7] := ⟨⟨"MindReadersModel", "namedNow", "(I)I"⟩, prog_9_method_30_code, some .int, TX7, 27, by decide, rfl, by decide +kernel, rfl, zmem 923 (by decide +kernel) rfl, zmem 925 (by decide +kernel) rfl, zmem 33 (by decide +kernel) rfl⟩
theorem zq_7_164 : zcpOK zmt zcls zT "MindReadersModel" 164 [1, 92, 2, 3, 1, 25, 7] := ⟨⟨"MindReadersModel", "isAlike", "(II)Z"⟩, prog_9_method_27_code, some .boolean, TX7, 27, by decide, rfl, by decide +kernel, rfl, zmem 941 (by decide +kernel) rfl, zmem 943 (by decide +kernel) rfl, zmem 36 (by decide +kernel) rfl⟩
theorem zq_7_168 : zcpOK zmt zcls zT "MindReadersModel" 168 [8, 0, 2] := zmem 936 (by decide +kernel) rfl
theorem zq_7_170 : zcpOK zmt zcls zT "MindReadersModel" 170 [1, 97, 1, 4, 6, 138, 7] := ⟨⟨"MindReadersModel", "alikeOf", "(I)I"⟩, prog_9_method_32_code, some .int, TX7, 27, by decide, rfl, by decide +kernel, rfl, zmem 937 (by decide +kernel) rfl, zmem 939 (by decide +kernel) rfl, zmem 35 (by decide +kernel) rfl⟩
theorem zq_7_173 : zcpOK zmt zcls zT "MindReadersModel" 173 [0, 7, 16, 0, 0] := ⟨TX7, 27, rfl, by decide, rfl, zmem 747 (by decide +kernel) rfl, ⟨_, tyX7_ok 16 (by decide), rfl⟩, fun _ => rfl⟩
theorem zq_7_176 : zcpOK zmt zcls zT "MindReadersModel" 176 [1, 101, 3, 5, 0, 0, 7] := ⟨⟨"MindReadersModel", "reach", "(III)Z"⟩, prog_9_method_36_code, some .boolean, TX7, 27, by decide, rfl, by decide +kernel, rfl, zmem 965 (by decide +kernel) rfl, zmem 967 (by decide +kernel) rfl, zmem 40 (by decide +kernel) rfl⟩
theorem zq_7_179 : zcpOK zmt zcls zT "MindReadersModel" 179 [1, 100, 3, 8, 0, 0, 7] := ⟨⟨"MindReadersModel", "goesOn", "(III)Z"⟩, prog_9_method_35_code, some .boolean, TX7, 27, by decide, rfl, by decide +kernel, rfl, zmem 961 (by decide +kernel) rfl, zmem 963 (by decide +kernel) rfl, zmem 39 (by decide +kernel) rfl⟩
theorem zq_7_182 : zcpOK zmt zcls zT "MindReadersModel" 182 [1, 102, 4, 7, 1, 24, 7] := ⟨⟨"MindReadersModel", "reachBy", "(IIII)Z"⟩, prog_9_method_37_code, some .boolean, TX7, 27, by decide, rfl, by decide +kernel, rfl, zmem 969 (by decide +kernel) rfl, zmem 971 (by decide +kernel) rfl, zmem 41 (by decide +kernel) rfl⟩
theorem zq_7_186 : zcpOK zmt zcls zT "MindReadersModel" 186 [1, 103, 1, 10, 6, 138, 7] := ⟨⟨"MindReadersModel", "twiceOf", "(I)I"⟩, prog_9_method_38_code, some .int, TX7, 27, by decide, rfl, by decide +kernel, rfl, zmem 957 (by decide +kernel) rfl, zmem 959 (by decide +kernel) rfl, zmem 38 (by decide +kernel) rfl⟩
theorem zq_7_189 : zcpOK zmt zcls zT "MindReadersModel" 189 [2, 106, 2, 10, 0, 0] := ⟨⟨"MindReadersModel", "common", "(JJ)J"⟩, prog_9_method_41_code, some .long, by decide, rfl, by decide +kernel, Or.inl (zmem 991 (by decide +kernel) rfl), zmem 992 (by decide +kernel) rfl⟩
theorem zq_7_193 : zcpOK zmt zcls zT "MindReadersModel" 193 [2, 108, 1, 1, 1, 25] := ⟨⟨"MindReadersModel", "isPart", "(I)Z"⟩, prog_9_method_43_code, some .boolean, by decide, rfl, by decide +kernel, Or.inl (zmem 977 (by decide +kernel) rfl), zmem 978 (by decide +kernel) rfl⟩
theorem zq_7_196 : zcpOK zmt zcls zT "MindReadersModel" 196 [1, 105, 1, 2, 0, 0, 7] := ⟨⟨"MindReadersModel", "saidBy", "(I)I"⟩, prog_9_method_40_code, some .int, TX7, 27, by decide, rfl, by decide +kernel, rfl, zmem 980 (by decide +kernel) rfl, zmem 982 (by decide +kernel) rfl, zmem 42 (by decide +kernel) rfl⟩
theorem zq_7_199 : zcpOK zmt zcls zT "MindReadersModel" 199 [1, 109, 1, 4, 0, 0, 7] := ⟨⟨"MindReadersModel", "weighed", "(I)I"⟩, prog_9_method_44_code, some .int, TX7, 27, by decide, rfl, by decide +kernel, rfl, zmem 984 (by decide +kernel) rfl, zmem 986 (by decide +kernel) rfl, zmem 43 (by decide +kernel) rfl⟩
theorem zq_7_202 : zcpOK zmt zcls zT "MindReadersModel" 202 [2, 107, 3, 7, 1, 29] := ⟨⟨"MindReadersModel", "term", "(JJI)J"⟩, prog_9_method_42_code, some .long, by decide, rfl, by decide +kernel, Or.inl (zmem 988 (by decide +kernel) rfl), zmem 989 (by decide +kernel) rfl⟩
theorem zq_7_206 : zcpOK zmt zcls zT "MindReadersModel" 206 [1, 84, 1, 2, 2, 46, 7] := ⟨⟨"MindReadersModel", "oddOf", "(I)I"⟩, prog_9_method_19_code, some .int, TX7, 27, by decide, rfl, by decide +kernel, rfl, zmem 1002 (by decide +kernel) rfl, zmem 1004 (by decide +kernel) rfl, zmem 45 (by decide +kernel) rfl⟩
theorem zq_7_209 : zcpOK zmt zcls zT "MindReadersModel" 209 [1, 111, 1, 6, 3, 67, 7] := ⟨⟨"MindReadersModel", "oddnessOf", "(I)I"⟩, prog_9_method_46_code, some .int, TX7, 27, by decide, rfl, by decide +kernel, rfl, zmem 998 (by decide +kernel) rfl, zmem 1000 (by decide +kernel) rfl, zmem 44 (by decide +kernel) rfl⟩
theorem zq_7_212 : zcpOK zmt zcls zT "MindReadersModel" 212 [8, 0, 10] := zmem 1010 (by decide +kernel) rfl
theorem zq_7_214 : zcpOK zmt zcls zT "MindReadersModel" 214 [8, 0, 17] := zmem 1011 (by decide +kernel) rfl
theorem zq_7_216 : zcpOK zmt zcls zT "MindReadersModel" 216 [1, 113, 2, 5, 0, 0, 7] := ⟨⟨"MindReadersModel", "placeOf", "(II)I"⟩, prog_9_method_48_code, some .int, TX7, 27, by decide, rfl, by decide +kernel, rfl, zmem 1012 (by decide +kernel) rfl, zmem 1014 (by decide +kernel) rfl, zmem 46 (by decide +kernel) rfl⟩
theorem zq_7_219 : zcpOK zmt zcls zT "MindReadersModel" 219 [1, 114, 3, 9, 4, 92, 7] := ⟨⟨"MindReadersModel", "speechAt", "(III)I"⟩, prog_9_method_49_code, some .int, TX7, 27, by decide, rfl, by decide +kernel, rfl, zmem 1016 (by decide +kernel) rfl, zmem 1018 (by decide +kernel) rfl, zmem 47 (by decide +kernel) rfl⟩
theorem zq_7_222 : zcpOK zmt zcls zT "MindReadersModel" 222 [1, 116, 1, 4, 0, 0, 7] := ⟨⟨"MindReadersModel", "takeLeast", "(I)I"⟩, prog_9_method_51_code, some .int, TX7, 27, by decide, rfl, by decide +kernel, rfl, zmem 1029 (by decide +kernel) rfl, zmem 1031 (by decide +kernel) rfl, zmem 49 (by decide +kernel) rfl⟩
theorem zq_7_225 : zcpOK zmt zcls zT "MindReadersModel" 225 [8, 0, 8] := zmem 1024 (by decide +kernel) rfl
theorem zq_7_227 : zcpOK zmt zcls zT "MindReadersModel" 227 [1, 117, 1, 7, 1, 23, 7] := ⟨⟨"MindReadersModel", "shortNow", "(I)I"⟩, prog_9_method_52_code, some .int, TX7, 27, by decide, rfl, by decide +kernel, rfl, zmem 1025 (by decide +kernel) rfl, zmem 1027 (by decide +kernel) rfl, zmem 48 (by decide +kernel) rfl⟩
theorem zq_7_230 : zcpOK zmt zcls zT "MindReadersModel" 230 [1, 119, 1, 7, 6, 138, 7] := ⟨⟨"MindReadersModel", "apartOf", "(I)I"⟩, prog_9_method_54_code, some .int, TX7, 27, by decide, rfl, by decide +kernel, rfl, zmem 1037 (by decide +kernel) rfl, zmem 1039 (by decide +kernel) rfl, zmem 50 (by decide +kernel) rfl⟩
theorem zq_7_233 : zcpOK zmt zcls zT "MindReadersModel" 233 [8, 1, 101] := zmem 1049 (by decide +kernel) rfl
theorem zq_7_235 : zcpOK zmt zcls zT "MindReadersModel" 235 [8, 1, 102] := zmem 1050 (by decide +kernel) rfl
theorem zq_7_237 : zcpOK zmt zcls zT "MindReadersModel" 237 [1, 122, 2, 5, 0, 0, 7] := ⟨⟨"MindReadersModel", "isAmong", "(II)Z"⟩, prog_9_method_57_code, some .boolean, TX7, 27, by decide, rfl, by decide +kernel, rfl, zmem 1051 (by decide +kernel) rfl, zmem 1053 (by decide +kernel) rfl, zmem 51 (by decide +kernel) rfl⟩
theorem zq_7_240 : zcpOK zmt zcls zT "MindReadersModel" 240 [8, 1, 103] := zmem 1055 (by decide +kernel) rfl
theorem zq_7_242 : zcpOK zmt zcls zT "MindReadersModel" 242 [0, 7, 18, 0, 0] := ⟨TX7, 27, rfl, by decide, rfl, zmem 749 (by decide +kernel) rfl, ⟨_, tyX7_ok 18 (by decide), rfl⟩, fun _ => rfl⟩
theorem zq_7_245 : zcpOK zmt zcls zT "MindReadersModel" 245 [1, 126, 3, 5, 4, 89, 7] := ⟨⟨"MindReadersModel", "isSaid", "(III)Z"⟩, prog_9_method_61_code, some .boolean, TX7, 27, by decide, rfl, by decide +kernel, rfl, zmem 1072 (by decide +kernel) rfl, zmem 1074 (by decide +kernel) rfl, zmem 53 (by decide +kernel) rfl⟩
theorem zq_7_248 : zcpOK zmt zcls zT "MindReadersModel" 248 [1, 127, 0, 5, 6, 138, 7] := ⟨⟨"MindReadersModel", "whichNow", "()I"⟩, prog_9_method_62_code, some .int, TX7, 27, by decide, rfl, by decide +kernel, rfl, zmem 1068 (by decide +kernel) rfl, zmem 1070 (by decide +kernel) rfl, zmem 52 (by decide +kernel) rfl⟩
theorem zq_7_251 : zcpOK zmt zcls zT "MindReadersModel" 251 [8, 0, 6] := zmem 1084 (by decide +kernel) rfl
theorem zq_7_253 : zcpOK zmt zcls zT "MindReadersModel" 253 [1, 131, 3, 8, 0, 0, 7] := ⟨⟨"MindReadersModel", "isLike", "(III)Z"⟩, prog_9_method_66_code, some .boolean, TX7, 27, by decide, rfl, by decide +kernel, rfl, zmem 1093 (by decide +kernel) rfl, zmem 1095 (by decide +kernel) rfl, zmem 55 (by decide +kernel) rfl⟩
theorem zq_7_256 : zcpOK zmt zcls zT "MindReadersModel" 256 [1, 132, 2, 6, 4, 92, 7] := ⟨⟨"MindReadersModel", "changeOf", "(II)I"⟩, prog_9_method_67_code, some .int, TX7, 27, by decide, rfl, by decide +kernel, rfl, zmem 1089 (by decide +kernel) rfl, zmem 1091 (by decide +kernel) rfl, zmem 54 (by decide +kernel) rfl⟩
theorem zq_7_259 : zcpOK zmt zcls zT "MindReadersModel" 259 [8, 0, 12] := zmem 1105 (by decide +kernel) rfl
theorem zq_7_261 : zcpOK zmt zcls zT "MindReadersModel" 261 [1, 136, 2, 7, 6, 138, 7] := ⟨⟨"MindReadersModel", "leftOf", "(II)I"⟩, prog_9_method_71_code, some .int, TX7, 27, by decide, rfl, by decide +kernel, rfl, zmem 1110 (by decide +kernel) rfl, zmem 1112 (by decide +kernel) rfl, zmem 56 (by decide +kernel) rfl⟩
theorem zq_7_264 : zcpOK zmt zcls zT "MindReadersModel" 264 [1, 138, 1, 7, 7, 164, 7] := ⟨⟨"MindReadersModel", "stopOf", "(I)I"⟩, prog_9_method_73_code, some .int, TX7, 27, by decide, rfl, by decide +kernel, rfl, zmem 1118 (by decide +kernel) rfl, zmem 1120 (by decide +kernel) rfl, zmem 57 (by decide +kernel) rfl⟩
theorem zq_7_267 : zcpOK zmt zcls zT "MindReadersModel" 267 [0, 7, 23, 0, 0] := ⟨TX7, 27, rfl, by decide, rfl, zmem 754 (by decide +kernel) rfl, ⟨_, tyX7_ok 23 (by decide), rfl⟩, fun _ => rfl⟩
theorem zq_7_270 : zcpOK zmt zcls zT "MindReadersModel" 270 [1, 142, 1, 2, 1, 23, 7] := ⟨⟨"MindReadersModel", "countOf", "(I)I"⟩, prog_9_method_77_code, some .int, TX7, 27, by decide, rfl, by decide +kernel, rfl, zmem 1134 (by decide +kernel) rfl, zmem 1136 (by decide +kernel) rfl, zmem 58 (by decide +kernel) rfl⟩
theorem zq_7_273 : zcpOK zmt zcls zT "MindReadersModel" 273 [8, 0, 31] := zmem 1147 (by decide +kernel) rfl
theorem zq_7_275 : zcpOK zmt zcls zT "MindReadersModel" 275 [0, 7, 26, 1, 0] := ⟨TX7, 27, rfl, by decide, rfl, zmem 757 (by decide +kernel) rfl, ⟨_, tyX7_ok 26 (by decide), rfl⟩, fun _ => rfl⟩
theorem zq_7_279 : zcpOK zmt zcls zT "MindReadersModel" 279 [1, 144, 1, 3, 0, 0, 7] := ⟨⟨"MindReadersModel", "say", "(J)V"⟩, prog_9_method_79_code, none, TX7, 27, by decide, rfl, by decide +kernel, rfl, zmem 1143 (by decide +kernel) rfl, zmem 1145 (by decide +kernel) rfl, zmem 59 (by decide +kernel) rfl⟩
theorem zq_7_283 : zcpOK zmt zcls zT "MindReadersModel" 283 [8, 0, 479] := zmem 1142 (by decide +kernel) rfl
theorem zq_7_285 : zcpOK zmt zcls zT "MindReadersModel" 285 [1, 145, 1, 4, 8, 190, 7] := ⟨⟨"MindReadersModel", "sayCode", "(I)V"⟩, prog_9_method_80_code, none, TX7, 27, by decide, rfl, by decide +kernel, rfl, zmem 1148 (by decide +kernel) rfl, zmem 1150 (by decide +kernel) rfl, zmem 60 (by decide +kernel) rfl⟩
theorem zcp_7_ok : ∀ q ∈ zcp_7, zcpOK zmt zcls zT "MindReadersModel" q.1 q.2 := List.forall_mem_cons.mpr ⟨zq_7_1, List.forall_mem_cons.mpr ⟨zq_7_7, List.forall_mem_cons.mpr ⟨zq_7_13, List.forall_mem_cons.mpr ⟨zq_7_16, List.forall_mem_cons.mpr ⟨zq_7_19, List.forall_mem_cons.mpr ⟨zq_7_22, List.forall_mem_cons.mpr ⟨zq_7_25, List.forall_mem_cons.mpr ⟨zq_7_28, List.forall_mem_cons.mpr ⟨zq_7_31, List.forall_mem_cons.mpr ⟨zq_7_34, List.forall_mem_cons.mpr ⟨zq_7_37, List.forall_mem_cons.mpr ⟨zq_7_40, List.forall_mem_cons.mpr ⟨zq_7_43, List.forall_mem_cons.mpr ⟨zq_7_47, List.forall_mem_cons.mpr ⟨zq_7_50, List.forall_mem_cons.mpr ⟨zq_7_53, List.forall_mem_cons.mpr ⟨zq_7_56, List.forall_mem_cons.mpr ⟨zq_7_60, List.forall_mem_cons.mpr ⟨zq_7_62, List.forall_mem_cons.mpr ⟨zq_7_65, List.forall_mem_cons.mpr ⟨zq_7_68, List.forall_mem_cons.mpr ⟨zq_7_71, List.forall_mem_cons.mpr ⟨zq_7_73, List.forall_mem_cons.mpr ⟨zq_7_75, List.forall_mem_cons.mpr ⟨zq_7_79, List.forall_mem_cons.mpr ⟨zq_7_83, List.forall_mem_cons.mpr ⟨zq_7_87, List.forall_mem_cons.mpr ⟨zq_7_90, List.forall_mem_cons.mpr ⟨zq_7_92, List.forall_mem_cons.mpr ⟨zq_7_95, List.forall_mem_cons.mpr ⟨zq_7_97, List.forall_mem_cons.mpr ⟨zq_7_100, List.forall_mem_cons.mpr ⟨zq_7_102, List.forall_mem_cons.mpr ⟨zq_7_104, List.forall_mem_cons.mpr ⟨zq_7_107, List.forall_mem_cons.mpr ⟨zq_7_110, List.forall_mem_cons.mpr ⟨zq_7_114, List.forall_mem_cons.mpr ⟨zq_7_117, List.forall_mem_cons.mpr ⟨zq_7_121, List.forall_mem_cons.mpr ⟨zq_7_125, List.forall_mem_cons.mpr ⟨zq_7_128, List.forall_mem_cons.mpr ⟨zq_7_130, List.forall_mem_cons.mpr ⟨zq_7_132, List.forall_mem_cons.mpr ⟨zq_7_134, List.forall_mem_cons.mpr ⟨zq_7_138, List.forall_mem_cons.mpr ⟨zq_7_141, List.forall_mem_cons.mpr ⟨zq_7_145, List.forall_mem_cons.mpr ⟨zq_7_149, List.forall_mem_cons.mpr ⟨zq_7_150, List.forall_mem_cons.mpr ⟨zq_7_153, List.forall_mem_cons.mpr ⟨zq_7_157, List.forall_mem_cons.mpr ⟨zq_7_161, List.forall_mem_cons.mpr ⟨zq_7_164, List.forall_mem_cons.mpr ⟨zq_7_168, List.forall_mem_cons.mpr ⟨zq_7_170, List.forall_mem_cons.mpr ⟨zq_7_173, List.forall_mem_cons.mpr ⟨zq_7_176, List.forall_mem_cons.mpr ⟨zq_7_179, List.forall_mem_cons.mpr ⟨zq_7_182, List.forall_mem_cons.mpr ⟨zq_7_186, List.forall_mem_cons.mpr ⟨zq_7_189, List.forall_mem_cons.mpr ⟨zq_7_193, List.forall_mem_cons.mpr ⟨zq_7_196, List.forall_mem_cons.mpr ⟨zq_7_199, List.forall_mem_cons.mpr ⟨zq_7_202, List.forall_mem_cons.mpr ⟨zq_7_206, List.forall_mem_cons.mpr ⟨zq_7_209, List.forall_mem_cons.mpr ⟨zq_7_212, List.forall_mem_cons.mpr ⟨zq_7_214, List.forall_mem_cons.mpr ⟨zq_7_216, List.forall_mem_cons.mpr ⟨zq_7_219, List.forall_mem_cons.mpr ⟨zq_7_222, List.forall_mem_cons.mpr ⟨zq_7_225, List.forall_mem_cons.mpr ⟨zq_7_227, List.forall_mem_cons.mpr ⟨zq_7_230, List.forall_mem_cons.mpr ⟨zq_7_233, List.forall_mem_cons.mpr ⟨zq_7_235, List.forall_mem_cons.mpr ⟨zq_7_237, List.forall_mem_cons.mpr ⟨zq_7_240, List.forall_mem_cons.mpr ⟨zq_7_242, List.forall_mem_cons.mpr ⟨zq_7_245, List.forall_mem_cons.mpr ⟨zq_7_248, List.forall_mem_cons.mpr ⟨zq_7_251, List.forall_mem_cons.mpr ⟨zq_7_253, List.forall_mem_cons.mpr ⟨zq_7_256, List.forall_mem_cons.mpr ⟨zq_7_259, List.forall_mem_cons.mpr ⟨zq_7_261, List.forall_mem_cons.mpr ⟨zq_7_264, List.forall_mem_cons.mpr ⟨zq_7_267, List.forall_mem_cons.mpr ⟨zq_7_270, List.forall_mem_cons.mpr ⟨zq_7_273, List.forall_mem_cons.mpr ⟨zq_7_275, List.forall_mem_cons.mpr ⟨zq_7_279, List.forall_mem_cons.mpr ⟨zq_7_283, List.forall_mem_cons.mpr ⟨zq_7_285, fun _ h => absurd h List.not_mem_nil⟩⟩⟩⟩⟩⟩⟩⟩⟩⟩⟩⟩⟩⟩⟩⟩⟩⟩⟩⟩⟩⟩⟩⟩⟩⟩⟩⟩⟩⟩⟩⟩⟩⟩⟩⟩⟩⟩⟩⟩⟩⟩⟩⟩⟩⟩⟩⟩⟩⟩⟩⟩⟩⟩⟩⟩⟩⟩⟩⟩⟩⟩⟩⟩⟩⟩⟩⟩⟩⟩⟩⟩⟩⟩⟩⟩⟩⟩⟩⟩⟩⟩⟩⟩⟩⟩⟩⟩⟩⟩⟩⟩⟩⟩⟩
/-- MindReadersLaw -/
def zcp_8 : List (Nat × List Nat) := [(7, [5, 6, 2, 2, 2, 0, 2, 2, 2, 2, 0, 2, 2, 2, 2, 2]), (9, [3, 1, 0, 2, 4, 85, 6]), (10, [5, 7, 2, 0, 0, 0, 2, 0, 2, 2, 0, 2, 0, 2, 2, 0, 2, 2, 0, 2, 0, 2, 2, 2, 0, 0, 2, 2, 1]), (12, [3, 66, 0, 1, 1, 20, 7]), (13, [8, 0, 4294967295]), (15, [1, 2, 1, 5, 2, 46, 6]), (19, [1, 68, 1, 9, 0, 0, 7]), (20, [1, 3, 0, 2, 1, 20, 6]), (24, [1, 69, 0, 2, 0, 0, 7]), (25, [1, 4, 0, 1, 2, 45, 6]), (28, [1, 72, 0, 1, 3, 68, 7]), (29, [1, 5, 0, 3, 4, 91, 6]), (32, [1, 73, 0, 2, 3, 68, 7]), (33, [1, 6, 4, 7, 4, 91, 6]), (37, [1, 75, 4, 6, 1, 25, 7]), (38, [1, 7, 2, 5, 2, 43, 6]), (42, [1, 77, 2, 5, 2, 46, 7]), (43, [1, 8, 2, 3, 2, 43, 6]), (46, [1, 78, 2, 3, 2, 46, 7]), (47, [1, 9, 1, 2, 1, 21, 6]), (51, [1, 79, 1, 2, 1, 25, 7]), (52, [1, 10, 2, 4, 2, 41, 6]), (55, [1, 81, 2, 4, 2, 46, 7]), (56, [1, 11, 3, 5, 4, 88, 6]), (60, [1, 90, 3, 4, 6, 138, 7]), (61, [1, 12, 1, 3, 4, 89, 6]), (64, [1, 96, 1, 3, 6, 138, 7]), (65, [1, 13, 2, 5, 4, 86, 6]), (68, [1, 98, 2, 4, 7, 161, 7]), (69, [1, 14, 2, 4, 3, 65, 6]), (72, [1, 99, 2, 7, 6, 138, 7]), (73, [1, 15, 1, 3, 5, 123, 6]), (76, [1, 104, 1, 2, 7, 167, 7]), (77, [1, 16, 2, 8, 4, 88, 6]), (80, [1, 110, 2, 6, 4, 92, 7]), (81, [1, 17, 1, 6, 3, 66, 6]), (84, [1, 112, 1, 2, 4, 92, 7]), (85, [1, 18, 2, 8, 6, 138, 6]), (88, [1, 115, 2, 6, 5, 120, 7]), (89, [1, 19, 2, 3, 3, 71, 6]), (92, [1, 118, 2, 3, 2, 55, 7]), (93, [1, 20, 1, 3, 3, 68, 6]), (96, [1, 120, 1, 2, 7, 164, 7]), (97, [1, 21, 1, 3, 4, 89, 6]), (100, [1, 121, 1, 2, 6, 138, 7]), (101, [1, 22, 5, 8, 4, 101, 6]), (105, [1, 123, 5, 17, 6, 138, 7]), (106, [1, 23, 1, 2, 3, 65, 6]), (109, [1, 124, 1, 3, 5, 111, 7]), (110, [1, 24, 0, 2, 2, 40, 6]), (113, [1, 125, 0, 2, 0, 0, 7]), (114, [1, 25, 0, 4, 4, 94, 6]), (117, [1, 128, 0, 1, 7, 162, 7]), (118, [1, 26, 2, 6, 4, 94, 6]), (121, [1, 129, 2, 8, 6, 138, 7]), (122, [1, 27, 2, 3, 2, 52, 6]), (126, [1, 130, 2, 8, 2, 55, 7]), (127, [1, 28, 2, 5, 5, 112, 6]), (130, [1, 133, 2, 3, 5, 117, 7]), (131, [1, 29, 1, 8, 5, 112, 6]), (134, [1, 134, 1, 7, 5, 117, 7]), (135, [1, 30, 4, 8, 1, 31, 6]), (139, [1, 135, 4, 10, 2, 55, 7]), (140, [1, 31, 2, 4, 4, 96, 6]), (143, [1, 137, 2, 3, 7, 164, 7]), (144, [1, 32, 1, 5, 4, 96, 6]), (147, [1, 139, 1, 2, 8, 190, 7]), (148, [1, 33, 0, 1, 4, 87, 6]), (151, [1, 140, 0, 2, 0, 0, 7]), (152, [1, 34, 0, 2, 4, 87, 6]), (155, [1, 141, 0, 2, 0, 0, 7]), (156, [1, 35, 1, 2, 2, 44, 6]), (159, [1, 143, 1, 2, 2, 44, 7]), (160, [1, 36, 0, 5, 6, 151, 6]), (164, [1, 146, 0, 3, 9, 213, 7])]
theorem zq_8_7 : zcpOK zmt zcls zT "MindReadersLaw" 7 [5, 6, 2, 2, 2, 0, 2, 2, 2, 2, 0, 2, 2, 2, 2, 2] := ⟨RX6, TX6, 14, rfl, rfl, zmem 72 (by decide +kernel) rfl, znw_6⟩
theorem zq_8_9 : zcpOK zmt zcls zT "MindReadersLaw" 9 [3, 1, 0, 2, 4, 85, 6] := ⟨⟨"MindReaders", "<init>", "()V"⟩, prog_1_method_1_code, TX6, 14, by decide, rfl, by decide +kernel, rfl, Or.inl (zmem 74 (by decide +kernel) rfl), zmem 75 (by decide +kernel) rfl, rfl⟩
theorem zq_8_10 : zcpOK zmt zcls zT "MindReadersLaw" 10 [5, 7, 2, 0, 0, 0, 2, 0, 2, 2, 0, 2, 0, 2, 2, 0, 2, 2, 0, 2, 0, 2, 2, 2, 0, 0, 2, 2, 1] := ⟨RX7, TX7, 27, rfl, rfl, zmem 725 (by decide +kernel) rfl, znw_7⟩
theorem zq_8_12 : zcpOK zmt zcls zT "MindReadersLaw" 12 [3, 66, 0, 1, 1, 20, 7] := ⟨⟨"MindReadersModel", "<init>", "()V"⟩, prog_9_method_1_code, TX7, 27, by decide, rfl, by decide +kernel, rfl, Or.inl (zmem 727 (by decide +kernel) rfl), zmem 728 (by decide +kernel) rfl, rfl⟩
theorem zq_8_13 : zcpOK zmt zcls zT "MindReadersLaw" 13 [8, 0, 4294967295] := zmem 1152 (by decide +kernel) rfl
theorem zq_8_15 : zcpOK zmt zcls zT "MindReadersLaw" 15 [1, 2, 1, 5, 2, 46, 6] := ⟨⟨"MindReaders", "letters", "(J)I"⟩, prog_1_method_2_code, some .int, TX6, 14, by decide, rfl, by decide +kernel, rfl, zmem 229 (by decide +kernel) rfl, zmem 230 (by decide +kernel) rfl, zmem 231 (by decide +kernel) rfl⟩
theorem zq_8_19 : zcpOK zmt zcls zT "MindReadersLaw" 19 [1, 68, 1, 9, 0, 0, 7] := ⟨⟨"MindReadersModel", "letters", "(J)I"⟩, prog_9_method_3_code, some .int, TX7, 27, by decide, rfl, by decide +kernel, rfl, zmem 814 (by decide +kernel) rfl, zmem 815 (by decide +kernel) rfl, zmem 816 (by decide +kernel) rfl⟩
theorem zq_8_20 : zcpOK zmt zcls zT "MindReadersLaw" 20 [1, 3, 0, 2, 1, 20, 6] := ⟨⟨"MindReaders", "blank", "()I"⟩, prog_1_method_3_code, some .int, TX6, 14, by decide, rfl, by decide +kernel, rfl, zmem 248 (by decide +kernel) rfl, zmem 249 (by decide +kernel) rfl, zmem 250 (by decide +kernel) rfl⟩
theorem zq_8_24 : zcpOK zmt zcls zT "MindReadersLaw" 24 [1, 69, 0, 2, 0, 0, 7] := ⟨⟨"MindReadersModel", "blank", "()I"⟩, prog_9_method_4_code, some .int, TX7, 27, by decide, rfl, by decide +kernel, rfl, zmem 819 (by decide +kernel) rfl, zmem 820 (by decide +kernel) rfl, zmem 821 (by decide +kernel) rfl⟩
theorem zq_8_25 : zcpOK zmt zcls zT "MindReadersLaw" 25 [1, 4, 0, 1, 2, 45, 6] := ⟨⟨"MindReaders", "fault", "()I"⟩, prog_1_method_4_code, some .int, TX6, 14, by decide, rfl, by decide +kernel, rfl, zmem 256 (by decide +kernel) rfl, zmem 257 (by decide +kernel) rfl, zmem 258 (by decide +kernel) rfl⟩
theorem zq_8_28 : zcpOK zmt zcls zT "MindReadersLaw" 28 [1, 72, 0, 1, 3, 68, 7] := ⟨⟨"MindReadersModel", "fault", "()I"⟩, prog_9_method_7_code, some .int, TX7, 27, by decide, rfl, by decide +kernel, rfl, zmem 823 (by decide +kernel) rfl, zmem 824 (by decide +kernel) rfl, zmem 825 (by decide +kernel) rfl⟩
theorem zq_8_29 : zcpOK zmt zcls zT "MindReadersLaw" 29 [1, 5, 0, 3, 4, 91, 6] := ⟨⟨"MindReaders", "code", "()I"⟩, prog_1_method_5_code, some .int, TX6, 14, by decide, rfl, by decide +kernel, rfl, zmem 271 (by decide +kernel) rfl, zmem 272 (by decide +kernel) rfl, zmem 273 (by decide +kernel) rfl⟩
theorem zq_8_32 : zcpOK zmt zcls zT "MindReadersLaw" 32 [1, 73, 0, 2, 3, 68, 7] := ⟨⟨"MindReadersModel", "code", "()I"⟩, prog_9_method_8_code, some .int, TX7, 27, by decide, rfl, by decide +kernel, rfl, zmem 840 (by decide +kernel) rfl, zmem 841 (by decide +kernel) rfl, zmem 842 (by decide +kernel) rfl⟩
theorem zq_8_33 : zcpOK zmt zcls zT "MindReadersLaw" 33 [1, 6, 4, 7, 4, 91, 6] := ⟨⟨"MindReaders", "signal", "(IIII)I"⟩, prog_1_method_6_code, some .int, TX6, 14, by decide, rfl, by decide +kernel, rfl, zmem 319 (by decide +kernel) rfl, zmem 320 (by decide +kernel) rfl, zmem 321 (by decide +kernel) rfl⟩
theorem zq_8_37 : zcpOK zmt zcls zT "MindReadersLaw" 37 [1, 75, 4, 6, 1, 25, 7] := ⟨⟨"MindReadersModel", "signal", "(IIII)I"⟩, prog_9_method_10_code, some .int, TX7, 27, by decide, rfl, by decide +kernel, rfl, zmem 844 (by decide +kernel) rfl, zmem 845 (by decide +kernel) rfl, zmem 846 (by decide +kernel) rfl⟩
theorem zq_8_38 : zcpOK zmt zcls zT "MindReadersLaw" 38 [1, 7, 2, 5, 2, 43, 6] := ⟨⟨"MindReaders", "as", "(II)I"⟩, prog_1_method_7_code, some .int, TX6, 14, by decide, rfl, by decide +kernel, rfl, zmem 343 (by decide +kernel) rfl, zmem 344 (by decide +kernel) rfl, zmem 345 (by decide +kernel) rfl⟩
theorem zq_8_42 : zcpOK zmt zcls zT "MindReadersLaw" 42 [1, 77, 2, 5, 2, 46, 7] := ⟨⟨"MindReadersModel", "as", "(II)I"⟩, prog_9_method_12_code, some .int, TX7, 27, by decide, rfl, by decide +kernel, rfl, zmem 850 (by decide +kernel) rfl, zmem 851 (by decide +kernel) rfl, zmem 852 (by decide +kernel) rfl⟩
theorem zq_8_43 : zcpOK zmt zcls zT "MindReadersLaw" 43 [1, 8, 2, 3, 2, 43, 6] := ⟨⟨"MindReaders", "about", "(II)I"⟩, prog_1_method_8_code, some .int, TX6, 14, by decide, rfl, by decide +kernel, rfl, zmem 349 (by decide +kernel) rfl, zmem 350 (by decide +kernel) rfl, zmem 351 (by decide +kernel) rfl⟩
theorem zq_8_46 : zcpOK zmt zcls zT "MindReadersLaw" 46 [1, 78, 2, 3, 2, 46, 7] := ⟨⟨"MindReadersModel", "about", "(II)I"⟩, prog_9_method_13_code, some .int, TX7, 27, by decide, rfl, by decide +kernel, rfl, zmem 858 (by decide +kernel) rfl, zmem 859 (by decide +kernel) rfl, zmem 860 (by decide +kernel) rfl⟩
theorem zq_8_47 : zcpOK zmt zcls zT "MindReadersLaw" 47 [1, 9, 1, 2, 1, 21, 6] := ⟨⟨"MindReaders", "thing", "(I)I"⟩, prog_1_method_9_code, some .int, TX6, 14, by decide, rfl, by decide +kernel, rfl, zmem 362 (by decide +kernel) rfl, zmem 363 (by decide +kernel) rfl, zmem 364 (by decide +kernel) rfl⟩
theorem zq_8_51 : zcpOK zmt zcls zT "MindReadersLaw" 51 [1, 79, 1, 2, 1, 25, 7] := ⟨⟨"MindReadersModel", "thing", "(I)I"⟩, prog_9_method_14_code, some .int, TX7, 27, by decide, rfl, by decide +kernel, rfl, zmem 863 (by decide +kernel) rfl, zmem 864 (by decide +kernel) rfl, zmem 865 (by decide +kernel) rfl⟩
theorem zq_8_52 : zcpOK zmt zcls zT "MindReadersLaw" 52 [1, 10, 2, 4, 2, 41, 6] := ⟨⟨"MindReaders", "weigh", "(II)I"⟩, prog_1_method_10_code, some .int, TX6, 14, by decide, rfl, by decide +kernel, rfl, zmem 369 (by decide +kernel) rfl, zmem 370 (by decide +kernel) rfl, zmem 371 (by decide +kernel) rfl⟩
theorem zq_8_55 : zcpOK zmt zcls zT "MindReadersLaw" 55 [1, 81, 2, 4, 2, 46, 7] := ⟨⟨"MindReadersModel", "weigh", "(II)I"⟩, prog_9_method_16_code, some .int, TX7, 27, by decide, rfl, by decide +kernel, rfl, zmem 868 (by decide +kernel) rfl, zmem 869 (by decide +kernel) rfl, zmem 870 (by decide +kernel) rfl⟩
theorem zq_8_56 : zcpOK zmt zcls zT "MindReadersLaw" 56 [1, 11, 3, 5, 4, 88, 6] := ⟨⟨"MindReaders", "speech", "(III)I"⟩, prog_1_method_11_code, some .int, TX6, 14, by decide, rfl, by decide +kernel, rfl, zmem 381 (by decide +kernel) rfl, zmem 382 (by decide +kernel) rfl, zmem 383 (by decide +kernel) rfl⟩
theorem zq_8_60 : zcpOK zmt zcls zT "MindReadersLaw" 60 [1, 90, 3, 4, 6, 138, 7] := ⟨⟨"MindReadersModel", "speech", "(III)I"⟩, prog_9_method_25_code, some .int, TX7, 27, by decide, rfl, by decide +kernel, rfl, zmem 876 (by decide +kernel) rfl, zmem 877 (by decide +kernel) rfl, zmem 878 (by decide +kernel) rfl⟩
theorem zq_8_61 : zcpOK zmt zcls zT "MindReadersLaw" 61 [1, 12, 1, 3, 4, 89, 6] := ⟨⟨"MindReaders", "means", "(I)I"⟩, prog_1_method_12_code, some .int, TX6, 14, by decide, rfl, by decide +kernel, rfl, zmem 400 (by decide +kernel) rfl, zmem 401 (by decide +kernel) rfl, zmem 402 (by decide +kernel) rfl⟩
theorem zq_8_64 : zcpOK zmt zcls zT "MindReadersLaw" 64 [1, 96, 1, 3, 6, 138, 7] := ⟨⟨"MindReadersModel", "means", "(I)I"⟩, prog_9_method_31_code, some .int, TX7, 27, by decide, rfl, by decide +kernel, rfl, zmem 911 (by decide +kernel) rfl, zmem 912 (by decide +kernel) rfl, zmem 913 (by decide +kernel) rfl⟩
theorem zq_8_65 : zcpOK zmt zcls zT "MindReadersLaw" 65 [1, 13, 2, 5, 4, 86, 6] := ⟨⟨"MindReaders", "clear", "(II)I"⟩, prog_1_method_13_code, some .int, TX6, 14, by decide, rfl, by decide +kernel, rfl, zmem 427 (by decide +kernel) rfl, zmem 428 (by decide +kernel) rfl, zmem 429 (by decide +kernel) rfl⟩
theorem zq_8_68 : zcpOK zmt zcls zT "MindReadersLaw" 68 [1, 98, 2, 4, 7, 161, 7] := ⟨⟨"MindReadersModel", "clear", "(II)I"⟩, prog_9_method_33_code, some .int, TX7, 27, by decide, rfl, by decide +kernel, rfl, zmem 932 (by decide +kernel) rfl, zmem 933 (by decide +kernel) rfl, zmem 934 (by decide +kernel) rfl⟩
theorem zq_8_69 : zcpOK zmt zcls zT "MindReadersLaw" 69 [1, 14, 2, 4, 3, 65, 6] := ⟨⟨"MindReaders", "starts", "(II)I"⟩, prog_1_method_14_code, some .int, TX6, 14, by decide, rfl, by decide +kernel, rfl, zmem 438 (by decide +kernel) rfl, zmem 439 (by decide +kernel) rfl, zmem 440 (by decide +kernel) rfl⟩
theorem zq_8_72 : zcpOK zmt zcls zT "MindReadersLaw" 72 [1, 99, 2, 7, 6, 138, 7] := ⟨⟨"MindReadersModel", "starts", "(II)I"⟩, prog_9_method_34_code, some .int, TX7, 27, by decide, rfl, by decide +kernel, rfl, zmem 949 (by decide +kernel) rfl, zmem 950 (by decide +kernel) rfl, zmem 951 (by decide +kernel) rfl⟩
theorem zq_8_73 : zcpOK zmt zcls zT "MindReadersLaw" 73 [1, 15, 1, 3, 5, 123, 6] := ⟨⟨"MindReaders", "twice", "(I)I"⟩, prog_1_method_15_code, some .int, TX6, 14, by decide, rfl, by decide +kernel, rfl, zmem 447 (by decide +kernel) rfl, zmem 448 (by decide +kernel) rfl, zmem 449 (by decide +kernel) rfl⟩
theorem zq_8_76 : zcpOK zmt zcls zT "MindReadersLaw" 76 [1, 104, 1, 2, 7, 167, 7] := ⟨⟨"MindReadersModel", "twice", "(I)I"⟩, prog_9_method_39_code, some .int, TX7, 27, by decide, rfl, by decide +kernel, rfl, zmem 953 (by decide +kernel) rfl, zmem 954 (by decide +kernel) rfl, zmem 955 (by decide +kernel) rfl⟩
theorem zq_8_77 : zcpOK zmt zcls zT "MindReadersLaw" 77 [1, 16, 2, 8, 4, 88, 6] := ⟨⟨"MindReaders", "mean", "(II)I"⟩, prog_1_method_16_code, some .int, TX6, 14, by decide, rfl, by decide +kernel, rfl, zmem 478 (by decide +kernel) rfl, zmem 479 (by decide +kernel) rfl, zmem 480 (by decide +kernel) rfl⟩
theorem zq_8_80 : zcpOK zmt zcls zT "MindReadersLaw" 80 [1, 110, 2, 6, 4, 92, 7] := ⟨⟨"MindReadersModel", "mean", "(II)I"⟩, prog_9_method_45_code, some .int, TX7, 27, by decide, rfl, by decide +kernel, rfl, zmem 973 (by decide +kernel) rfl, zmem 974 (by decide +kernel) rfl, zmem 975 (by decide +kernel) rfl⟩
theorem zq_8_81 : zcpOK zmt zcls zT "MindReadersLaw" 81 [1, 17, 1, 6, 3, 66, 6] := ⟨⟨"MindReaders", "oddness", "(I)I"⟩, prog_1_method_17_code, some .int, TX6, 14, by decide, rfl, by decide +kernel, rfl, zmem 497 (by decide +kernel) rfl, zmem 498 (by decide +kernel) rfl, zmem 499 (by decide +kernel) rfl⟩
theorem zq_8_84 : zcpOK zmt zcls zT "MindReadersLaw" 84 [1, 112, 1, 2, 4, 92, 7] := ⟨⟨"MindReadersModel", "oddness", "(I)I"⟩, prog_9_method_47_code, some .int, TX7, 27, by decide, rfl, by decide +kernel, rfl, zmem 994 (by decide +kernel) rfl, zmem 995 (by decide +kernel) rfl, zmem 996 (by decide +kernel) rfl⟩
theorem zq_8_85 : zcpOK zmt zcls zT "MindReadersLaw" 85 [1, 18, 2, 8, 6, 138, 6] := ⟨⟨"MindReaders", "dealt", "(II)I"⟩, prog_1_method_18_code, some .int, TX6, 14, by decide, rfl, by decide +kernel, rfl, zmem 506 (by decide +kernel) rfl, zmem 507 (by decide +kernel) rfl, zmem 508 (by decide +kernel) rfl⟩
theorem zq_8_88 : zcpOK zmt zcls zT "MindReadersLaw" 88 [1, 115, 2, 6, 5, 120, 7] := ⟨⟨"MindReadersModel", "dealt", "(II)I"⟩, prog_9_method_50_code, some .int, TX7, 27, by decide, rfl, by decide +kernel, rfl, zmem 1006 (by decide +kernel) rfl, zmem 1007 (by decide +kernel) rfl, zmem 1008 (by decide +kernel) rfl⟩
theorem zq_8_89 : zcpOK zmt zcls zT "MindReadersLaw" 89 [1, 19, 2, 3, 3, 71, 6] := ⟨⟨"MindReaders", "shortest", "(II)I"⟩, prog_1_method_19_code, some .int, TX6, 14, by decide, rfl, by decide +kernel, rfl, zmem 521 (by decide +kernel) rfl, zmem 522 (by decide +kernel) rfl, zmem 523 (by decide +kernel) rfl⟩
theorem zq_8_92 : zcpOK zmt zcls zT "MindReadersLaw" 92 [1, 118, 2, 3, 2, 55, 7] := ⟨⟨"MindReadersModel", "shortest", "(II)I"⟩, prog_9_method_53_code, some .int, TX7, 27, by decide, rfl, by decide +kernel, rfl, zmem 1020 (by decide +kernel) rfl, zmem 1021 (by decide +kernel) rfl, zmem 1022 (by decide +kernel) rfl⟩
theorem zq_8_93 : zcpOK zmt zcls zT "MindReadersLaw" 93 [1, 20, 1, 3, 3, 68, 6] := ⟨⟨"MindReaders", "apart", "(I)I"⟩, prog_1_method_20_code, some .int, TX6, 14, by decide, rfl, by decide +kernel, rfl, zmem 541 (by decide +kernel) rfl, zmem 542 (by decide +kernel) rfl, zmem 543 (by decide +kernel) rfl⟩
theorem zq_8_96 : zcpOK zmt zcls zT "MindReadersLaw" 96 [1, 120, 1, 2, 7, 164, 7] := ⟨⟨"MindReadersModel", "apart", "(I)I"⟩, prog_9_method_55_code, some .int, TX7, 27, by decide, rfl, by decide +kernel, rfl, zmem 1033 (by decide +kernel) rfl, zmem 1034 (by decide +kernel) rfl, zmem 1035 (by decide +kernel) rfl⟩
theorem zq_8_97 : zcpOK zmt zcls zT "MindReadersLaw" 97 [1, 21, 1, 3, 4, 89, 6] := ⟨⟨"MindReaders", "named", "(I)I"⟩, prog_1_method_21_code, some .int, TX6, 14, by decide, rfl, by decide +kernel, rfl, zmem 553 (by decide +kernel) rfl, zmem 554 (by decide +kernel) rfl, zmem 555 (by decide +kernel) rfl⟩
theorem zq_8_100 : zcpOK zmt zcls zT "MindReadersLaw" 100 [1, 121, 1, 2, 6, 138, 7] := ⟨⟨"MindReadersModel", "named", "(I)I"⟩, prog_9_method_56_code, some .int, TX7, 27, by decide, rfl, by decide +kernel, rfl, zmem 1041 (by decide +kernel) rfl, zmem 1042 (by decide +kernel) rfl, zmem 1043 (by decide +kernel) rfl⟩
theorem zq_8_101 : zcpOK zmt zcls zT "MindReadersLaw" 101 [1, 22, 5, 8, 4, 101, 6] := ⟨⟨"MindReaders", "right", "(IIIII)J"⟩, prog_1_method_22_code, some .long, TX6, 14, by decide, rfl, by decide +kernel, rfl, zmem 561 (by decide +kernel) rfl, zmem 562 (by decide +kernel) rfl, zmem 563 (by decide +kernel) rfl⟩
theorem zq_8_105 : zcpOK zmt zcls zT "MindReadersLaw" 105 [1, 123, 5, 17, 6, 138, 7] := ⟨⟨"MindReadersModel", "right", "(IIIII)J"⟩, prog_9_method_58_code, some .long, TX7, 27, by decide, rfl, by decide +kernel, rfl, zmem 1045 (by decide +kernel) rfl, zmem 1046 (by decide +kernel) rfl, zmem 1047 (by decide +kernel) rfl⟩
theorem zq_8_106 : zcpOK zmt zcls zT "MindReadersLaw" 106 [1, 23, 1, 2, 3, 65, 6] := ⟨⟨"MindReaders", "note", "(I)I"⟩, prog_1_method_23_code, some .int, TX6, 14, by decide, rfl, by decide +kernel, rfl, zmem 587 (by decide +kernel) rfl, zmem 588 (by decide +kernel) rfl, zmem 589 (by decide +kernel) rfl⟩
theorem zq_8_109 : zcpOK zmt zcls zT "MindReadersLaw" 109 [1, 124, 1, 3, 5, 111, 7] := ⟨⟨"MindReadersModel", "note", "(I)I"⟩, prog_9_method_59_code, some .int, TX7, 27, by decide, rfl, by decide +kernel, rfl, zmem 1056 (by decide +kernel) rfl, zmem 1057 (by decide +kernel) rfl, zmem 1058 (by decide +kernel) rfl⟩
theorem zq_8_110 : zcpOK zmt zcls zT "MindReadersLaw" 110 [1, 24, 0, 2, 2, 40, 6] := ⟨⟨"MindReaders", "forget", "()I"⟩, prog_1_method_24_code, some .int, TX6, 14, by decide, rfl, by decide +kernel, rfl, zmem 603 (by decide +kernel) rfl, zmem 604 (by decide +kernel) rfl, zmem 605 (by decide +kernel) rfl⟩
theorem zq_8_113 : zcpOK zmt zcls zT "MindReadersLaw" 113 [1, 125, 0, 2, 0, 0, 7] := ⟨⟨"MindReadersModel", "forget", "()I"⟩, prog_9_method_60_code, some .int, TX7, 27, by decide, rfl, by decide +kernel, rfl, zmem 1060 (by decide +kernel) rfl, zmem 1061 (by decide +kernel) rfl, zmem 1062 (by decide +kernel) rfl⟩
theorem zq_8_114 : zcpOK zmt zcls zT "MindReadersLaw" 114 [1, 25, 0, 4, 4, 94, 6] := ⟨⟨"MindReaders", "which", "()I"⟩, prog_1_method_25_code, some .int, TX6, 14, by decide, rfl, by decide +kernel, rfl, zmem 612 (by decide +kernel) rfl, zmem 613 (by decide +kernel) rfl, zmem 614 (by decide +kernel) rfl⟩
theorem zq_8_117 : zcpOK zmt zcls zT "MindReadersLaw" 117 [1, 128, 0, 1, 7, 162, 7] := ⟨⟨"MindReadersModel", "which", "()I"⟩, prog_9_method_63_code, some .int, TX7, 27, by decide, rfl, by decide +kernel, rfl, zmem 1064 (by decide +kernel) rfl, zmem 1065 (by decide +kernel) rfl, zmem 1066 (by decide +kernel) rfl⟩
theorem zq_8_118 : zcpOK zmt zcls zT "MindReadersLaw" 118 [1, 26, 2, 6, 4, 94, 6] := ⟨⟨"MindReaders", "step", "(II)I"⟩, prog_1_method_26_code, some .int, TX6, 14, by decide, rfl, by decide +kernel, rfl, zmem 630 (by decide +kernel) rfl, zmem 631 (by decide +kernel) rfl, zmem 632 (by decide +kernel) rfl⟩
theorem zq_8_121 : zcpOK zmt zcls zT "MindReadersLaw" 121 [1, 129, 2, 8, 6, 138, 7] := ⟨⟨"MindReadersModel", "step", "(II)I"⟩, prog_9_method_64_code, some .int, TX7, 27, by decide, rfl, by decide +kernel, rfl, zmem 1076 (by decide +kernel) rfl, zmem 1077 (by decide +kernel) rfl, zmem 1078 (by decide +kernel) rfl⟩
theorem zq_8_122 : zcpOK zmt zcls zT "MindReadersLaw" 122 [1, 27, 2, 3, 2, 52, 6] := ⟨⟨"MindReaders", "seen", "(II)J"⟩, prog_1_method_27_code, some .long, TX6, 14, by decide, rfl, by decide +kernel, rfl, zmem 634 (by decide +kernel) rfl, zmem 635 (by decide +kernel) rfl, zmem 636 (by decide +kernel) rfl⟩
theorem zq_8_126 : zcpOK zmt zcls zT "MindReadersLaw" 126 [1, 130, 2, 8, 2, 55, 7] := ⟨⟨"MindReadersModel", "seen", "(II)J"⟩, prog_9_method_65_code, some .long, TX7, 27, by decide, rfl, by decide +kernel, rfl, zmem 1080 (by decide +kernel) rfl, zmem 1081 (by decide +kernel) rfl, zmem 1082 (by decide +kernel) rfl⟩
theorem zq_8_127 : zcpOK zmt zcls zT "MindReadersLaw" 127 [1, 28, 2, 5, 5, 112, 6] := ⟨⟨"MindReaders", "change", "(II)I"⟩, prog_1_method_28_code, some .int, TX6, 14, by decide, rfl, by decide +kernel, rfl, zmem 648 (by decide +kernel) rfl, zmem 649 (by decide +kernel) rfl, zmem 650 (by decide +kernel) rfl⟩
theorem zq_8_130 : zcpOK zmt zcls zT "MindReadersLaw" 130 [1, 133, 2, 3, 5, 117, 7] := ⟨⟨"MindReadersModel", "change", "(II)I"⟩, prog_9_method_68_code, some .int, TX7, 27, by decide, rfl, by decide +kernel, rfl, zmem 1085 (by decide +kernel) rfl, zmem 1086 (by decide +kernel) rfl, zmem 1087 (by decide +kernel) rfl⟩
theorem zq_8_131 : zcpOK zmt zcls zT "MindReadersLaw" 131 [1, 29, 1, 8, 5, 112, 6] := ⟨⟨"MindReaders", "cheapest", "(I)I"⟩, prog_1_method_29_code, some .int, TX6, 14, by decide, rfl, by decide +kernel, rfl, zmem 656 (by decide +kernel) rfl, zmem 657 (by decide +kernel) rfl, zmem 658 (by decide +kernel) rfl⟩
theorem zq_8_134 : zcpOK zmt zcls zT "MindReadersLaw" 134 [1, 134, 1, 7, 5, 117, 7] := ⟨⟨"MindReadersModel", "cheapest", "(I)I"⟩, prog_9_method_69_code, some .int, TX7, 27, by decide, rfl, by decide +kernel, rfl, zmem 1097 (by decide +kernel) rfl, zmem 1098 (by decide +kernel) rfl, zmem 1099 (by decide +kernel) rfl⟩
theorem zq_8_135 : zcpOK zmt zcls zT "MindReadersLaw" 135 [1, 30, 4, 8, 1, 31, 6] := ⟨⟨"MindReaders", "luck", "(IIII)J"⟩, prog_1_method_30_code, some .long, TX6, 14, by decide, rfl, by decide +kernel, rfl, zmem 660 (by decide +kernel) rfl, zmem 661 (by decide +kernel) rfl, zmem 662 (by decide +kernel) rfl⟩
theorem zq_8_139 : zcpOK zmt zcls zT "MindReadersLaw" 139 [1, 135, 4, 10, 2, 55, 7] := ⟨⟨"MindReadersModel", "luck", "(IIII)J"⟩, prog_9_method_70_code, some .long, TX7, 27, by decide, rfl, by decide +kernel, rfl, zmem 1101 (by decide +kernel) rfl, zmem 1102 (by decide +kernel) rfl, zmem 1103 (by decide +kernel) rfl⟩
theorem zq_8_140 : zcpOK zmt zcls zT "MindReadersLaw" 140 [1, 31, 2, 4, 4, 96, 6] := ⟨⟨"MindReaders", "left", "(II)I"⟩, prog_1_method_31_code, some .int, TX6, 14, by decide, rfl, by decide +kernel, rfl, zmem 667 (by decide +kernel) rfl, zmem 668 (by decide +kernel) rfl, zmem 669 (by decide +kernel) rfl⟩
theorem zq_8_143 : zcpOK zmt zcls zT "MindReadersLaw" 143 [1, 137, 2, 3, 7, 164, 7] := ⟨⟨"MindReadersModel", "left", "(II)I"⟩, prog_9_method_72_code, some .int, TX7, 27, by decide, rfl, by decide +kernel, rfl, zmem 1106 (by decide +kernel) rfl, zmem 1107 (by decide +kernel) rfl, zmem 1108 (by decide +kernel) rfl⟩
theorem zq_8_144 : zcpOK zmt zcls zT "MindReadersLaw" 144 [1, 32, 1, 5, 4, 96, 6] := ⟨⟨"MindReaders", "stop", "(I)I"⟩, prog_1_method_32_code, some .int, TX6, 14, by decide, rfl, by decide +kernel, rfl, zmem 676 (by decide +kernel) rfl, zmem 677 (by decide +kernel) rfl, zmem 678 (by decide +kernel) rfl⟩
theorem zq_8_147 : zcpOK zmt zcls zT "MindReadersLaw" 147 [1, 139, 1, 2, 8, 190, 7] := ⟨⟨"MindReadersModel", "stop", "(I)I"⟩, prog_9_method_74_code, some .int, TX7, 27, by decide, rfl, by decide +kernel, rfl, zmem 1114 (by decide +kernel) rfl, zmem 1115 (by decide +kernel) rfl, zmem 1116 (by decide +kernel) rfl⟩
theorem zq_8_148 : zcpOK zmt zcls zT "MindReadersLaw" 148 [1, 33, 0, 1, 4, 87, 6] := ⟨⟨"MindReaders", "image", "()I"⟩, prog_1_method_33_code, some .int, TX6, 14, by decide, rfl, by decide +kernel, rfl, zmem 680 (by decide +kernel) rfl, zmem 681 (by decide +kernel) rfl, zmem 682 (by decide +kernel) rfl⟩
theorem zq_8_151 : zcpOK zmt zcls zT "MindReadersLaw" 151 [1, 140, 0, 2, 0, 0, 7] := ⟨⟨"MindReadersModel", "image", "()I"⟩, prog_9_method_75_code, some .int, TX7, 27, by decide, rfl, by decide +kernel, rfl, zmem 1122 (by decide +kernel) rfl, zmem 1123 (by decide +kernel) rfl, zmem 1124 (by decide +kernel) rfl⟩
theorem zq_8_152 : zcpOK zmt zcls zT "MindReadersLaw" 152 [1, 34, 0, 2, 4, 87, 6] := ⟨⟨"MindReaders", "restore", "()I"⟩, prog_1_method_34_code, some .int, TX6, 14, by decide, rfl, by decide +kernel, rfl, zmem 693 (by decide +kernel) rfl, zmem 694 (by decide +kernel) rfl, zmem 695 (by decide +kernel) rfl⟩
theorem zq_8_155 : zcpOK zmt zcls zT "MindReadersLaw" 155 [1, 141, 0, 2, 0, 0, 7] := ⟨⟨"MindReadersModel", "restore", "()I"⟩, prog_9_method_76_code, some .int, TX7, 27, by decide, rfl, by decide +kernel, rfl, zmem 1126 (by decide +kernel) rfl, zmem 1127 (by decide +kernel) rfl, zmem 1128 (by decide +kernel) rfl⟩
theorem zq_8_156 : zcpOK zmt zcls zT "MindReadersLaw" 156 [1, 35, 1, 2, 2, 44, 6] := ⟨⟨"MindReaders", "count", "(I)I"⟩, prog_1_method_35_code, some .int, TX6, 14, by decide, rfl, by decide +kernel, rfl, zmem 697 (by decide +kernel) rfl, zmem 698 (by decide +kernel) rfl, zmem 699 (by decide +kernel) rfl⟩
theorem zq_8_159 : zcpOK zmt zcls zT "MindReadersLaw" 159 [1, 143, 1, 2, 2, 44, 7] := ⟨⟨"MindReadersModel", "count", "(I)I"⟩, prog_9_method_78_code, some .int, TX7, 27, by decide, rfl, by decide +kernel, rfl, zmem 1130 (by decide +kernel) rfl, zmem 1131 (by decide +kernel) rfl, zmem 1132 (by decide +kernel) rfl⟩
theorem zq_8_160 : zcpOK zmt zcls zT "MindReadersLaw" 160 [1, 36, 0, 5, 6, 151, 6] := ⟨⟨"MindReaders", "digest", "()J"⟩, prog_1_method_36_code, some .long, TX6, 14, by decide, rfl, by decide +kernel, rfl, zmem 701 (by decide +kernel) rfl, zmem 702 (by decide +kernel) rfl, zmem 703 (by decide +kernel) rfl⟩
theorem zq_8_164 : zcpOK zmt zcls zT "MindReadersLaw" 164 [1, 146, 0, 3, 9, 213, 7] := ⟨⟨"MindReadersModel", "digest", "()J"⟩, prog_9_method_81_code, some .long, TX7, 27, by decide, rfl, by decide +kernel, rfl, zmem 1138 (by decide +kernel) rfl, zmem 1139 (by decide +kernel) rfl, zmem 1140 (by decide +kernel) rfl⟩
theorem zcp_8_ok : ∀ q ∈ zcp_8, zcpOK zmt zcls zT "MindReadersLaw" q.1 q.2 := List.forall_mem_cons.mpr ⟨zq_8_7, List.forall_mem_cons.mpr ⟨zq_8_9, List.forall_mem_cons.mpr ⟨zq_8_10, List.forall_mem_cons.mpr ⟨zq_8_12, List.forall_mem_cons.mpr ⟨zq_8_13, List.forall_mem_cons.mpr ⟨zq_8_15, List.forall_mem_cons.mpr ⟨zq_8_19, List.forall_mem_cons.mpr ⟨zq_8_20, List.forall_mem_cons.mpr ⟨zq_8_24, List.forall_mem_cons.mpr ⟨zq_8_25, List.forall_mem_cons.mpr ⟨zq_8_28, List.forall_mem_cons.mpr ⟨zq_8_29, List.forall_mem_cons.mpr ⟨zq_8_32, List.forall_mem_cons.mpr ⟨zq_8_33, List.forall_mem_cons.mpr ⟨zq_8_37, List.forall_mem_cons.mpr ⟨zq_8_38, List.forall_mem_cons.mpr ⟨zq_8_42, List.forall_mem_cons.mpr ⟨zq_8_43, List.forall_mem_cons.mpr ⟨zq_8_46, List.forall_mem_cons.mpr ⟨zq_8_47, List.forall_mem_cons.mpr ⟨zq_8_51, List.forall_mem_cons.mpr ⟨zq_8_52, List.forall_mem_cons.mpr ⟨zq_8_55, List.forall_mem_cons.mpr ⟨zq_8_56, List.forall_mem_cons.mpr ⟨zq_8_60, List.forall_mem_cons.mpr ⟨zq_8_61, List.forall_mem_cons.mpr ⟨zq_8_64, List.forall_mem_cons.mpr ⟨zq_8_65, List.forall_mem_cons.mpr ⟨zq_8_68, List.forall_mem_cons.mpr ⟨zq_8_69, List.forall_mem_cons.mpr ⟨zq_8_72, List.forall_mem_cons.mpr ⟨zq_8_73, List.forall_mem_cons.mpr ⟨zq_8_76, List.forall_mem_cons.mpr ⟨zq_8_77, List.forall_mem_cons.mpr ⟨zq_8_80, List.forall_mem_cons.mpr ⟨zq_8_81, List.forall_mem_cons.mpr ⟨zq_8_84, List.forall_mem_cons.mpr ⟨zq_8_85, List.forall_mem_cons.mpr ⟨zq_8_88, List.forall_mem_cons.mpr ⟨zq_8_89, List.forall_mem_cons.mpr ⟨zq_8_92, List.forall_mem_cons.mpr ⟨zq_8_93, List.forall_mem_cons.mpr ⟨zq_8_96, List.forall_mem_cons.mpr ⟨zq_8_97, List.forall_mem_cons.mpr ⟨zq_8_100, List.forall_mem_cons.mpr ⟨zq_8_101, List.forall_mem_cons.mpr ⟨zq_8_105, List.forall_mem_cons.mpr ⟨zq_8_106, List.forall_mem_cons.mpr ⟨zq_8_109, List.forall_mem_cons.mpr ⟨zq_8_110, List.forall_mem_cons.mpr ⟨zq_8_113, List.forall_mem_cons.mpr ⟨zq_8_114, List.forall_mem_cons.mpr ⟨zq_8_117, List.forall_mem_cons.mpr ⟨zq_8_118, List.forall_mem_cons.mpr ⟨zq_8_121, List.forall_mem_cons.mpr ⟨zq_8_122, List.forall_mem_cons.mpr ⟨zq_8_126, List.forall_mem_cons.mpr ⟨zq_8_127, List.forall_mem_cons.mpr ⟨zq_8_130, List.forall_mem_cons.mpr ⟨zq_8_131, List.forall_mem_cons.mpr ⟨zq_8_134, List.forall_mem_cons.mpr ⟨zq_8_135, List.forall_mem_cons.mpr ⟨zq_8_139, List.forall_mem_cons.mpr ⟨zq_8_140, List.forall_mem_cons.mpr ⟨zq_8_143, List.forall_mem_cons.mpr ⟨zq_8_144, List.forall_mem_cons.mpr ⟨zq_8_147, List.forall_mem_cons.mpr ⟨zq_8_148, List.forall_mem_cons.mpr ⟨zq_8_151, List.forall_mem_cons.mpr ⟨zq_8_152, List.forall_mem_cons.mpr ⟨zq_8_155, List.forall_mem_cons.mpr ⟨zq_8_156, List.forall_mem_cons.mpr ⟨zq_8_159, List.forall_mem_cons.mpr ⟨zq_8_160, List.forall_mem_cons.mpr ⟨zq_8_164, fun _ h => absurd h List.not_mem_nil⟩⟩⟩⟩⟩⟩⟩⟩⟩⟩⟩⟩⟩⟩⟩⟩⟩⟩⟩⟩⟩⟩⟩⟩⟩⟩⟩⟩⟩⟩⟩⟩⟩⟩⟩⟩⟩⟩⟩⟩⟩⟩⟩⟩⟩⟩⟩⟩⟩⟩⟩⟩⟩⟩⟩⟩⟩⟩⟩⟩⟩⟩⟩⟩⟩⟩⟩⟩⟩⟩⟩⟩⟩⟩⟩
/-- java/lang/Integer -/
def zcp_9 : List (Nat × List Nat) := [(265, [7, 0, 1431655765]), (266, [7, 0, 858993459]), (267, [7, 0, 252645135])]
theorem zq_9_265 : zcpOK zmt zcls zT "java/lang/Integer" 265 [7, 0, 1431655765] := zmem 645 (by decide +kernel) rfl
theorem zq_9_266 : zcpOK zmt zcls zT "java/lang/Integer" 266 [7, 0, 858993459] := zmem 646 (by decide +kernel) rfl
theorem zq_9_267 : zcpOK zmt zcls zT "java/lang/Integer" 267 [7, 0, 252645135] := zmem 647 (by decide +kernel) rfl
theorem zcp_9_ok : ∀ q ∈ zcp_9, zcpOK zmt zcls zT "java/lang/Integer" q.1 q.2 := List.forall_mem_cons.mpr ⟨zq_9_265, List.forall_mem_cons.mpr ⟨zq_9_266, List.forall_mem_cons.mpr ⟨zq_9_267, fun _ h => absurd h List.not_mem_nil⟩⟩⟩
/-- java/lang/Math -/
def zcp_10 : List (Nat × List Nat) := []
theorem zcp_10_ok : ∀ q ∈ zcp_10, zcpOK zmt zcls zT "java/lang/Math" q.1 q.2 := fun _ h => absurd h List.not_mem_nil
end
