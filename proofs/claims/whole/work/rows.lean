section
-- ===== PART A: goes FIRST, ahead of the names: the tables' words, and 'selects' of the private methods out of them =====
/-- a private method of a class that the tables say can be made, by its rows of tables_1 -/
def lw_okq (q : MethodName × Nat) : Prop := (q.1.cls ≠ "java/lang/invoke/MethodHandle" ∧ q.1.cls ≠ "java/lang/invoke/VarHandle") ∧ Cond.instantiable q.1.cls q.2 ∈ tables_1 ∧ Cond.privateMethod q.1 ∈ tables_1 ∧ Cond.instanceMethod q.1 ∈ tables_1
theorem lw_p0 : lw_okq (⟨"MindReaders", "firstFault", "()I"⟩, 14) := ⟨⟨by decide +kernel, by decide +kernel⟩, List.mem_of_getElem? (i := 12) (by decide +kernel), List.mem_of_getElem? (i := 200) (by decide +kernel), List.mem_of_getElem? (i := 201) (by decide +kernel)⟩
theorem lw_p1 : lw_okq (⟨"MindReaders", "codeAt", "(I)LMindReaders$Code;"⟩, 14) := ⟨⟨by decide +kernel, by decide +kernel⟩, List.mem_of_getElem? (i := 12) (by decide +kernel), List.mem_of_getElem? (i := 279) (by decide +kernel), List.mem_of_getElem? (i := 280) (by decide +kernel)⟩
theorem lw_p2 : lw_okq (⟨"MindReaders", "isThing", "(I)Z"⟩, 14) := ⟨⟨by decide +kernel, by decide +kernel⟩, List.mem_of_getElem? (i := 12) (by decide +kernel), List.mem_of_getElem? (i := 313) (by decide +kernel), List.mem_of_getElem? (i := 314) (by decide +kernel)⟩
theorem lw_p3 : lw_okq (⟨"MindReaders", "longOf", "(LMindReaders$Code;I)I"⟩, 14) := ⟨⟨by decide +kernel, by decide +kernel⟩, List.mem_of_getElem? (i := 12) (by decide +kernel), List.mem_of_getElem? (i := 331) (by decide +kernel), List.mem_of_getElem? (i := 332) (by decide +kernel)⟩
theorem lw_p4 : lw_okq (⟨"MindReaders", "hearPage", "()Z"⟩, 14) := ⟨⟨by decide +kernel, by decide +kernel⟩, List.mem_of_getElem? (i := 12) (by decide +kernel), List.mem_of_getElem? (i := 344) (by decide +kernel), List.mem_of_getElem? (i := 345) (by decide +kernel)⟩
theorem lw_p5 : lw_okq (⟨"MindReaders", "readPage", "()Z"⟩, 14) := ⟨⟨by decide +kernel, by decide +kernel⟩, List.mem_of_getElem? (i := 12) (by decide +kernel), List.mem_of_getElem? (i := 348) (by decide +kernel), List.mem_of_getElem? (i := 349) (by decide +kernel)⟩
theorem lw_p6 : lw_okq (⟨"MindReaders$Readings", "meet", "(LMindReaders$Code;IIII)Z"⟩, 2) := ⟨⟨by decide +kernel, by decide +kernel⟩, List.mem_of_getElem? (i := 94) (by decide +kernel), List.mem_of_getElem? (i := 401) (by decide +kernel), List.mem_of_getElem? (i := 402) (by decide +kernel)⟩
theorem lw_p7 : lw_okq (⟨"MindReaders$Readings", "comeTo", "(III)Z"⟩, 2) := ⟨⟨by decide +kernel, by decide +kernel⟩, List.mem_of_getElem? (i := 94) (by decide +kernel), List.mem_of_getElem? (i := 409) (by decide +kernel), List.mem_of_getElem? (i := 410) (by decide +kernel)⟩
theorem lw_p8 : lw_okq (⟨"MindReaders$Readings", "goOn", "(LMindReaders$Code;)Z"⟩, 2) := ⟨⟨by decide +kernel, by decide +kernel⟩, List.mem_of_getElem? (i := 94) (by decide +kernel), List.mem_of_getElem? (i := 414) (by decide +kernel), List.mem_of_getElem? (i := 415) (by decide +kernel)⟩
theorem lw_p9 : lw_okq (⟨"MindReaders", "thingsSaid", "(LMindReaders$Code;)I"⟩, 14) := ⟨⟨by decide +kernel, by decide +kernel⟩, List.mem_of_getElem? (i := 12) (by decide +kernel), List.mem_of_getElem? (i := 425) (by decide +kernel), List.mem_of_getElem? (i := 426) (by decide +kernel)⟩
theorem lw_p10 : lw_okq (⟨"MindReaders", "dealtTo", "(LMindReaders$Code;I)I"⟩, 14) := ⟨⟨by decide +kernel, by decide +kernel⟩, List.mem_of_getElem? (i := 12) (by decide +kernel), List.mem_of_getElem? (i := 450) (by decide +kernel), List.mem_of_getElem? (i := 451) (by decide +kernel)⟩
theorem lw_p11 : lw_okq (⟨"MindReaders", "rankByLong", "(LMindReaders$Code;II)I"⟩, 14) := ⟨⟨by decide +kernel, by decide +kernel⟩, List.mem_of_getElem? (i := 12) (by decide +kernel), List.mem_of_getElem? (i := 457) (by decide +kernel), List.mem_of_getElem? (i := 458) (by decide +kernel)⟩
theorem lw_p12 : lw_okq (⟨"MindReaders", "leastLong", "(I)J"⟩, 14) := ⟨⟨by decide +kernel, by decide +kernel⟩, List.mem_of_getElem? (i := 12) (by decide +kernel), List.mem_of_getElem? (i := 465) (by decide +kernel), List.mem_of_getElem? (i := 466) (by decide +kernel)⟩
theorem lw_p13 : lw_okq (⟨"MindReaders", "waysNamed", "(LMindReaders$Code;III)J"⟩, 14) := ⟨⟨by decide +kernel, by decide +kernel⟩, List.mem_of_getElem? (i := 12) (by decide +kernel), List.mem_of_getElem? (i := 512) (by decide +kernel), List.mem_of_getElem? (i := 513) (by decide +kernel)⟩
theorem lw_p14 : lw_okq (⟨"MindReaders", "waysHeard", "(LMindReaders$Row;II)J"⟩, 14) := ⟨⟨by decide +kernel, by decide +kernel⟩, List.mem_of_getElem? (i := 12) (by decide +kernel), List.mem_of_getElem? (i := 519) (by decide +kernel), List.mem_of_getElem? (i := 520) (by decide +kernel)⟩
theorem lw_p15 : lw_okq (⟨"MindReaders", "notesLet", "(LMindReaders$Code;II)Z"⟩, 14) := ⟨⟨by decide +kernel, by decide +kernel⟩, List.mem_of_getElem? (i := 12) (by decide +kernel), List.mem_of_getElem? (i := 556) (by decide +kernel), List.mem_of_getElem? (i := 557) (by decide +kernel)⟩
def lw_privs_1 : List (MethodName × Nat) := [(⟨"MindReaders", "firstFault", "()I"⟩, 14), (⟨"MindReaders", "codeAt", "(I)LMindReaders$Code;"⟩, 14), (⟨"MindReaders", "isThing", "(I)Z"⟩, 14), (⟨"MindReaders", "longOf", "(LMindReaders$Code;I)I"⟩, 14), (⟨"MindReaders", "hearPage", "()Z"⟩, 14), (⟨"MindReaders", "readPage", "()Z"⟩, 14), (⟨"MindReaders$Readings", "meet", "(LMindReaders$Code;IIII)Z"⟩, 2), (⟨"MindReaders$Readings", "comeTo", "(III)Z"⟩, 2), (⟨"MindReaders$Readings", "goOn", "(LMindReaders$Code;)Z"⟩, 2), (⟨"MindReaders", "thingsSaid", "(LMindReaders$Code;)I"⟩, 14), (⟨"MindReaders", "dealtTo", "(LMindReaders$Code;I)I"⟩, 14), (⟨"MindReaders", "rankByLong", "(LMindReaders$Code;II)I"⟩, 14), (⟨"MindReaders", "leastLong", "(I)J"⟩, 14), (⟨"MindReaders", "waysNamed", "(LMindReaders$Code;III)J"⟩, 14), (⟨"MindReaders", "waysHeard", "(LMindReaders$Row;II)J"⟩, 14), (⟨"MindReaders", "notesLet", "(LMindReaders$Code;II)Z"⟩, 14)]
theorem lw_r1 : ∀ q ∈ lw_privs_1, lw_okq q := List.forall_mem_cons.mpr ⟨lw_p0, List.forall_mem_cons.mpr ⟨lw_p1, List.forall_mem_cons.mpr ⟨lw_p2, List.forall_mem_cons.mpr ⟨lw_p3, List.forall_mem_cons.mpr ⟨lw_p4, List.forall_mem_cons.mpr ⟨lw_p5, List.forall_mem_cons.mpr ⟨lw_p6, List.forall_mem_cons.mpr ⟨lw_p7, List.forall_mem_cons.mpr ⟨lw_p8, List.forall_mem_cons.mpr ⟨lw_p9, List.forall_mem_cons.mpr ⟨lw_p10, List.forall_mem_cons.mpr ⟨lw_p11, List.forall_mem_cons.mpr ⟨lw_p12, List.forall_mem_cons.mpr ⟨lw_p13, List.forall_mem_cons.mpr ⟨lw_p14, List.forall_mem_cons.mpr ⟨lw_p15, fun _ h => absurd h List.not_mem_nil⟩⟩⟩⟩⟩⟩⟩⟩⟩⟩⟩⟩⟩⟩⟩⟩
theorem lw_p16 : lw_okq (⟨"MindReaders", "waysAllSeen", "(I)J"⟩, 14) := ⟨⟨by decide +kernel, by decide +kernel⟩, List.mem_of_getElem? (i := 12) (by decide +kernel), List.mem_of_getElem? (i := 578) (by decide +kernel), List.mem_of_getElem? (i := 579) (by decide +kernel)⟩
theorem lw_p17 : lw_okq (⟨"MindReaders", "changeOf", "(LMindReaders$Code;LMindReaders$Code;)I"⟩, 14) := ⟨⟨by decide +kernel, by decide +kernel⟩, List.mem_of_getElem? (i := 12) (by decide +kernel), List.mem_of_getElem? (i := 592) (by decide +kernel), List.mem_of_getElem? (i := 593) (by decide +kernel)⟩
theorem lw_p18 : lw_okq (⟨"MindReaders", "unlike", "(LMindReaders$Code;II)I"⟩, 14) := ⟨⟨by decide +kernel, by decide +kernel⟩, List.mem_of_getElem? (i := 12) (by decide +kernel), List.mem_of_getElem? (i := 611) (by decide +kernel), List.mem_of_getElem? (i := 612) (by decide +kernel)⟩
theorem lw_p19 : lw_okq (⟨"MindReaders", "mixCode", "(JILMindReaders$Code;)J"⟩, 14) := ⟨⟨by decide +kernel, by decide +kernel⟩, List.mem_of_getElem? (i := 12) (by decide +kernel), List.mem_of_getElem? (i := 654) (by decide +kernel), List.mem_of_getElem? (i := 655) (by decide +kernel)⟩
theorem lw_p20 : lw_okq (⟨"MindReadersModel", "faultOf", "()I"⟩, 27) := ⟨⟨by decide +kernel, by decide +kernel⟩, List.mem_of_getElem? (i := 665) (by decide +kernel), List.mem_of_getElem? (i := 767) (by decide +kernel), List.mem_of_getElem? (i := 768) (by decide +kernel)⟩
theorem lw_p21 : lw_okq (⟨"MindReadersModel", "go", "(I)Z"⟩, 27) := ⟨⟨by decide +kernel, by decide +kernel⟩, List.mem_of_getElem? (i := 665) (by decide +kernel), List.mem_of_getElem? (i := 771) (by decide +kernel), List.mem_of_getElem? (i := 772) (by decide +kernel)⟩
theorem lw_p22 : lw_okq (⟨"MindReadersModel", "isSignal", "(I)Z"⟩, 27) := ⟨⟨by decide +kernel, by decide +kernel⟩, List.mem_of_getElem? (i := 665) (by decide +kernel), List.mem_of_getElem? (i := 794) (by decide +kernel), List.mem_of_getElem? (i := 795) (by decide +kernel)⟩
theorem lw_p23 : lw_okq (⟨"MindReadersModel", "isThing", "(I)Z"⟩, 27) := ⟨⟨by decide +kernel, by decide +kernel⟩, List.mem_of_getElem? (i := 665) (by decide +kernel), List.mem_of_getElem? (i := 812) (by decide +kernel), List.mem_of_getElem? (i := 813) (by decide +kernel)⟩
theorem lw_p24 : lw_okq (⟨"MindReadersModel", "isCode", "(I)Z"⟩, 27) := ⟨⟨by decide +kernel, by decide +kernel⟩, List.mem_of_getElem? (i := 665) (by decide +kernel), List.mem_of_getElem? (i := 820) (by decide +kernel), List.mem_of_getElem? (i := 821) (by decide +kernel)⟩
theorem lw_p25 : lw_okq (⟨"MindReadersModel", "speechOf", "(III)I"⟩, 27) := ⟨⟨by decide +kernel, by decide +kernel⟩, List.mem_of_getElem? (i := 665) (by decide +kernel), List.mem_of_getElem? (i := 824) (by decide +kernel), List.mem_of_getElem? (i := 825) (by decide +kernel)⟩
theorem lw_p26 : lw_okq (⟨"MindReadersModel", "layPlain", "(III)V"⟩, 27) := ⟨⟨by decide +kernel, by decide +kernel⟩, List.mem_of_getElem? (i := 665) (by decide +kernel), List.mem_of_getElem? (i := 829) (by decide +kernel), List.mem_of_getElem? (i := 830) (by decide +kernel)⟩
theorem lw_p27 : lw_okq (⟨"MindReadersModel", "stand", "(I)V"⟩, 27) := ⟨⟨by decide +kernel, by decide +kernel⟩, List.mem_of_getElem? (i := 665) (by decide +kernel), List.mem_of_getElem? (i := 833) (by decide +kernel), List.mem_of_getElem? (i := 834) (by decide +kernel)⟩
theorem lw_p28 : lw_okq (⟨"MindReadersModel", "kindOf", "(I)I"⟩, 27) := ⟨⟨by decide +kernel, by decide +kernel⟩, List.mem_of_getElem? (i := 665) (by decide +kernel), List.mem_of_getElem? (i := 837) (by decide +kernel), List.mem_of_getElem? (i := 838) (by decide +kernel)⟩
theorem lw_p29 : lw_okq (⟨"MindReadersModel", "longOf", "(II)I"⟩, 27) := ⟨⟨by decide +kernel, by decide +kernel⟩, List.mem_of_getElem? (i := 665) (by decide +kernel), List.mem_of_getElem? (i := 843) (by decide +kernel), List.mem_of_getElem? (i := 844) (by decide +kernel)⟩
theorem lw_p30 : lw_okq (⟨"MindReadersModel", "secondsOf", "(I)I"⟩, 27) := ⟨⟨by decide +kernel, by decide +kernel⟩, List.mem_of_getElem? (i := 665) (by decide +kernel), List.mem_of_getElem? (i := 847) (by decide +kernel), List.mem_of_getElem? (i := 848) (by decide +kernel)⟩
theorem lw_p31 : lw_okq (⟨"MindReadersModel", "layAll", "(II)V"⟩, 27) := ⟨⟨by decide +kernel, by decide +kernel⟩, List.mem_of_getElem? (i := 665) (by decide +kernel), List.mem_of_getElem? (i := 855) (by decide +kernel), List.mem_of_getElem? (i := 856) (by decide +kernel)⟩
def lw_privs_2 : List (MethodName × Nat) := [(⟨"MindReaders", "waysAllSeen", "(I)J"⟩, 14), (⟨"MindReaders", "changeOf", "(LMindReaders$Code;LMindReaders$Code;)I"⟩, 14), (⟨"MindReaders", "unlike", "(LMindReaders$Code;II)I"⟩, 14), (⟨"MindReaders", "mixCode", "(JILMindReaders$Code;)J"⟩, 14), (⟨"MindReadersModel", "faultOf", "()I"⟩, 27), (⟨"MindReadersModel", "go", "(I)Z"⟩, 27), (⟨"MindReadersModel", "isSignal", "(I)Z"⟩, 27), (⟨"MindReadersModel", "isThing", "(I)Z"⟩, 27), (⟨"MindReadersModel", "isCode", "(I)Z"⟩, 27), (⟨"MindReadersModel", "speechOf", "(III)I"⟩, 27), (⟨"MindReadersModel", "layPlain", "(III)V"⟩, 27), (⟨"MindReadersModel", "stand", "(I)V"⟩, 27), (⟨"MindReadersModel", "kindOf", "(I)I"⟩, 27), (⟨"MindReadersModel", "longOf", "(II)I"⟩, 27), (⟨"MindReadersModel", "secondsOf", "(I)I"⟩, 27), (⟨"MindReadersModel", "layAll", "(II)V"⟩, 27)]
theorem lw_r2 : ∀ q ∈ lw_privs_2, lw_okq q := List.forall_mem_cons.mpr ⟨lw_p16, List.forall_mem_cons.mpr ⟨lw_p17, List.forall_mem_cons.mpr ⟨lw_p18, List.forall_mem_cons.mpr ⟨lw_p19, List.forall_mem_cons.mpr ⟨lw_p20, List.forall_mem_cons.mpr ⟨lw_p21, List.forall_mem_cons.mpr ⟨lw_p22, List.forall_mem_cons.mpr ⟨lw_p23, List.forall_mem_cons.mpr ⟨lw_p24, List.forall_mem_cons.mpr ⟨lw_p25, List.forall_mem_cons.mpr ⟨lw_p26, List.forall_mem_cons.mpr ⟨lw_p27, List.forall_mem_cons.mpr ⟨lw_p28, List.forall_mem_cons.mpr ⟨lw_p29, List.forall_mem_cons.mpr ⟨lw_p30, List.forall_mem_cons.mpr ⟨lw_p31, fun _ h => absurd h List.not_mem_nil⟩⟩⟩⟩⟩⟩⟩⟩⟩⟩⟩⟩⟩⟩⟩⟩
theorem lw_p32 : lw_okq (⟨"MindReadersModel", "layPage", "()Z"⟩, 27) := ⟨⟨by decide +kernel, by decide +kernel⟩, List.mem_of_getElem? (i := 665) (by decide +kernel), List.mem_of_getElem? (i := 859) (by decide +kernel), List.mem_of_getElem? (i := 860) (by decide +kernel)⟩
theorem lw_p33 : lw_okq (⟨"MindReadersModel", "namedNow", "(I)I"⟩, 27) := ⟨⟨by decide +kernel, by decide +kernel⟩, List.mem_of_getElem? (i := 665) (by decide +kernel), List.mem_of_getElem? (i := 863) (by decide +kernel), List.mem_of_getElem? (i := 864) (by decide +kernel)⟩
theorem lw_p34 : lw_okq (⟨"MindReadersModel", "differs", "(I)I"⟩, 27) := ⟨⟨by decide +kernel, by decide +kernel⟩, List.mem_of_getElem? (i := 665) (by decide +kernel), List.mem_of_getElem? (i := 868) (by decide +kernel), List.mem_of_getElem? (i := 869) (by decide +kernel)⟩
theorem lw_p35 : lw_okq (⟨"MindReadersModel", "alikeOf", "(I)I"⟩, 27) := ⟨⟨by decide +kernel, by decide +kernel⟩, List.mem_of_getElem? (i := 665) (by decide +kernel), List.mem_of_getElem? (i := 877) (by decide +kernel), List.mem_of_getElem? (i := 878) (by decide +kernel)⟩
theorem lw_p36 : lw_okq (⟨"MindReadersModel", "isAlike", "(II)Z"⟩, 27) := ⟨⟨by decide +kernel, by decide +kernel⟩, List.mem_of_getElem? (i := 665) (by decide +kernel), List.mem_of_getElem? (i := 881) (by decide +kernel), List.mem_of_getElem? (i := 882) (by decide +kernel)⟩
theorem lw_p37 : lw_okq (⟨"MindReadersModel", "isStart", "(III)Z"⟩, 27) := ⟨⟨by decide +kernel, by decide +kernel⟩, List.mem_of_getElem? (i := 665) (by decide +kernel), List.mem_of_getElem? (i := 885) (by decide +kernel), List.mem_of_getElem? (i := 886) (by decide +kernel)⟩
theorem lw_p38 : lw_okq (⟨"MindReadersModel", "twiceOf", "(I)I"⟩, 27) := ⟨⟨by decide +kernel, by decide +kernel⟩, List.mem_of_getElem? (i := 665) (by decide +kernel), List.mem_of_getElem? (i := 897) (by decide +kernel), List.mem_of_getElem? (i := 898) (by decide +kernel)⟩
theorem lw_p39 : lw_okq (⟨"MindReadersModel", "goesOn", "(III)Z"⟩, 27) := ⟨⟨by decide +kernel, by decide +kernel⟩, List.mem_of_getElem? (i := 665) (by decide +kernel), List.mem_of_getElem? (i := 901) (by decide +kernel), List.mem_of_getElem? (i := 902) (by decide +kernel)⟩
theorem lw_p40 : lw_okq (⟨"MindReadersModel", "reach", "(III)Z"⟩, 27) := ⟨⟨by decide +kernel, by decide +kernel⟩, List.mem_of_getElem? (i := 665) (by decide +kernel), List.mem_of_getElem? (i := 905) (by decide +kernel), List.mem_of_getElem? (i := 906) (by decide +kernel)⟩
theorem lw_p41 : lw_okq (⟨"MindReadersModel", "reachBy", "(IIII)Z"⟩, 27) := ⟨⟨by decide +kernel, by decide +kernel⟩, List.mem_of_getElem? (i := 665) (by decide +kernel), List.mem_of_getElem? (i := 909) (by decide +kernel), List.mem_of_getElem? (i := 910) (by decide +kernel)⟩
theorem lw_p42 : lw_okq (⟨"MindReadersModel", "saidBy", "(I)I"⟩, 27) := ⟨⟨by decide +kernel, by decide +kernel⟩, List.mem_of_getElem? (i := 665) (by decide +kernel), List.mem_of_getElem? (i := 920) (by decide +kernel), List.mem_of_getElem? (i := 921) (by decide +kernel)⟩
theorem lw_p43 : lw_okq (⟨"MindReadersModel", "weighed", "(I)I"⟩, 27) := ⟨⟨by decide +kernel, by decide +kernel⟩, List.mem_of_getElem? (i := 665) (by decide +kernel), List.mem_of_getElem? (i := 924) (by decide +kernel), List.mem_of_getElem? (i := 925) (by decide +kernel)⟩
theorem lw_p44 : lw_okq (⟨"MindReadersModel", "oddnessOf", "(I)I"⟩, 27) := ⟨⟨by decide +kernel, by decide +kernel⟩, List.mem_of_getElem? (i := 665) (by decide +kernel), List.mem_of_getElem? (i := 938) (by decide +kernel), List.mem_of_getElem? (i := 939) (by decide +kernel)⟩
theorem lw_p45 : lw_okq (⟨"MindReadersModel", "oddOf", "(I)I"⟩, 27) := ⟨⟨by decide +kernel, by decide +kernel⟩, List.mem_of_getElem? (i := 665) (by decide +kernel), List.mem_of_getElem? (i := 942) (by decide +kernel), List.mem_of_getElem? (i := 943) (by decide +kernel)⟩
theorem lw_p46 : lw_okq (⟨"MindReadersModel", "placeOf", "(II)I"⟩, 27) := ⟨⟨by decide +kernel, by decide +kernel⟩, List.mem_of_getElem? (i := 665) (by decide +kernel), List.mem_of_getElem? (i := 952) (by decide +kernel), List.mem_of_getElem? (i := 953) (by decide +kernel)⟩
theorem lw_p47 : lw_okq (⟨"MindReadersModel", "speechAt", "(III)I"⟩, 27) := ⟨⟨by decide +kernel, by decide +kernel⟩, List.mem_of_getElem? (i := 665) (by decide +kernel), List.mem_of_getElem? (i := 956) (by decide +kernel), List.mem_of_getElem? (i := 957) (by decide +kernel)⟩
def lw_privs_3 : List (MethodName × Nat) := [(⟨"MindReadersModel", "layPage", "()Z"⟩, 27), (⟨"MindReadersModel", "namedNow", "(I)I"⟩, 27), (⟨"MindReadersModel", "differs", "(I)I"⟩, 27), (⟨"MindReadersModel", "alikeOf", "(I)I"⟩, 27), (⟨"MindReadersModel", "isAlike", "(II)Z"⟩, 27), (⟨"MindReadersModel", "isStart", "(III)Z"⟩, 27), (⟨"MindReadersModel", "twiceOf", "(I)I"⟩, 27), (⟨"MindReadersModel", "goesOn", "(III)Z"⟩, 27), (⟨"MindReadersModel", "reach", "(III)Z"⟩, 27), (⟨"MindReadersModel", "reachBy", "(IIII)Z"⟩, 27), (⟨"MindReadersModel", "saidBy", "(I)I"⟩, 27), (⟨"MindReadersModel", "weighed", "(I)I"⟩, 27), (⟨"MindReadersModel", "oddnessOf", "(I)I"⟩, 27), (⟨"MindReadersModel", "oddOf", "(I)I"⟩, 27), (⟨"MindReadersModel", "placeOf", "(II)I"⟩, 27), (⟨"MindReadersModel", "speechAt", "(III)I"⟩, 27)]
theorem lw_r3 : ∀ q ∈ lw_privs_3, lw_okq q := List.forall_mem_cons.mpr ⟨lw_p32, List.forall_mem_cons.mpr ⟨lw_p33, List.forall_mem_cons.mpr ⟨lw_p34, List.forall_mem_cons.mpr ⟨lw_p35, List.forall_mem_cons.mpr ⟨lw_p36, List.forall_mem_cons.mpr ⟨lw_p37, List.forall_mem_cons.mpr ⟨lw_p38, List.forall_mem_cons.mpr ⟨lw_p39, List.forall_mem_cons.mpr ⟨lw_p40, List.forall_mem_cons.mpr ⟨lw_p41, List.forall_mem_cons.mpr ⟨lw_p42, List.forall_mem_cons.mpr ⟨lw_p43, List.forall_mem_cons.mpr ⟨lw_p44, List.forall_mem_cons.mpr ⟨lw_p45, List.forall_mem_cons.mpr ⟨lw_p46, List.forall_mem_cons.mpr ⟨lw_p47, fun _ h => absurd h List.not_mem_nil⟩⟩⟩⟩⟩⟩⟩⟩⟩⟩⟩⟩⟩⟩⟩⟩
theorem lw_p48 : lw_okq (⟨"MindReadersModel", "shortNow", "(I)I"⟩, 27) := ⟨⟨by decide +kernel, by decide +kernel⟩, List.mem_of_getElem? (i := 665) (by decide +kernel), List.mem_of_getElem? (i := 965) (by decide +kernel), List.mem_of_getElem? (i := 966) (by decide +kernel)⟩
theorem lw_p49 : lw_okq (⟨"MindReadersModel", "takeLeast", "(I)I"⟩, 27) := ⟨⟨by decide +kernel, by decide +kernel⟩, List.mem_of_getElem? (i := 665) (by decide +kernel), List.mem_of_getElem? (i := 969) (by decide +kernel), List.mem_of_getElem? (i := 970) (by decide +kernel)⟩
theorem lw_p50 : lw_okq (⟨"MindReadersModel", "apartOf", "(I)I"⟩, 27) := ⟨⟨by decide +kernel, by decide +kernel⟩, List.mem_of_getElem? (i := 665) (by decide +kernel), List.mem_of_getElem? (i := 977) (by decide +kernel), List.mem_of_getElem? (i := 978) (by decide +kernel)⟩
theorem lw_p51 : lw_okq (⟨"MindReadersModel", "isAmong", "(II)Z"⟩, 27) := ⟨⟨by decide +kernel, by decide +kernel⟩, List.mem_of_getElem? (i := 665) (by decide +kernel), List.mem_of_getElem? (i := 991) (by decide +kernel), List.mem_of_getElem? (i := 992) (by decide +kernel)⟩
theorem lw_p52 : lw_okq (⟨"MindReadersModel", "whichNow", "()I"⟩, 27) := ⟨⟨by decide +kernel, by decide +kernel⟩, List.mem_of_getElem? (i := 665) (by decide +kernel), List.mem_of_getElem? (i := 1008) (by decide +kernel), List.mem_of_getElem? (i := 1009) (by decide +kernel)⟩
theorem lw_p53 : lw_okq (⟨"MindReadersModel", "isSaid", "(III)Z"⟩, 27) := ⟨⟨by decide +kernel, by decide +kernel⟩, List.mem_of_getElem? (i := 665) (by decide +kernel), List.mem_of_getElem? (i := 1012) (by decide +kernel), List.mem_of_getElem? (i := 1013) (by decide +kernel)⟩
theorem lw_p54 : lw_okq (⟨"MindReadersModel", "changeOf", "(II)I"⟩, 27) := ⟨⟨by decide +kernel, by decide +kernel⟩, List.mem_of_getElem? (i := 665) (by decide +kernel), List.mem_of_getElem? (i := 1029) (by decide +kernel), List.mem_of_getElem? (i := 1030) (by decide +kernel)⟩
theorem lw_p55 : lw_okq (⟨"MindReadersModel", "isLike", "(III)Z"⟩, 27) := ⟨⟨by decide +kernel, by decide +kernel⟩, List.mem_of_getElem? (i := 665) (by decide +kernel), List.mem_of_getElem? (i := 1033) (by decide +kernel), List.mem_of_getElem? (i := 1034) (by decide +kernel)⟩
theorem lw_p56 : lw_okq (⟨"MindReadersModel", "leftOf", "(II)I"⟩, 27) := ⟨⟨by decide +kernel, by decide +kernel⟩, List.mem_of_getElem? (i := 665) (by decide +kernel), List.mem_of_getElem? (i := 1050) (by decide +kernel), List.mem_of_getElem? (i := 1051) (by decide +kernel)⟩
theorem lw_p57 : lw_okq (⟨"MindReadersModel", "stopOf", "(I)I"⟩, 27) := ⟨⟨by decide +kernel, by decide +kernel⟩, List.mem_of_getElem? (i := 665) (by decide +kernel), List.mem_of_getElem? (i := 1058) (by decide +kernel), List.mem_of_getElem? (i := 1059) (by decide +kernel)⟩
theorem lw_p58 : lw_okq (⟨"MindReadersModel", "countOf", "(I)I"⟩, 27) := ⟨⟨by decide +kernel, by decide +kernel⟩, List.mem_of_getElem? (i := 665) (by decide +kernel), List.mem_of_getElem? (i := 1074) (by decide +kernel), List.mem_of_getElem? (i := 1075) (by decide +kernel)⟩
theorem lw_p59 : lw_okq (⟨"MindReadersModel", "say", "(J)V"⟩, 27) := ⟨⟨by decide +kernel, by decide +kernel⟩, List.mem_of_getElem? (i := 665) (by decide +kernel), List.mem_of_getElem? (i := 1083) (by decide +kernel), List.mem_of_getElem? (i := 1084) (by decide +kernel)⟩
theorem lw_p60 : lw_okq (⟨"MindReadersModel", "sayCode", "(I)V"⟩, 27) := ⟨⟨by decide +kernel, by decide +kernel⟩, List.mem_of_getElem? (i := 665) (by decide +kernel), List.mem_of_getElem? (i := 1088) (by decide +kernel), List.mem_of_getElem? (i := 1089) (by decide +kernel)⟩
def lw_privs_4 : List (MethodName × Nat) := [(⟨"MindReadersModel", "shortNow", "(I)I"⟩, 27), (⟨"MindReadersModel", "takeLeast", "(I)I"⟩, 27), (⟨"MindReadersModel", "apartOf", "(I)I"⟩, 27), (⟨"MindReadersModel", "isAmong", "(II)Z"⟩, 27), (⟨"MindReadersModel", "whichNow", "()I"⟩, 27), (⟨"MindReadersModel", "isSaid", "(III)Z"⟩, 27), (⟨"MindReadersModel", "changeOf", "(II)I"⟩, 27), (⟨"MindReadersModel", "isLike", "(III)Z"⟩, 27), (⟨"MindReadersModel", "leftOf", "(II)I"⟩, 27), (⟨"MindReadersModel", "stopOf", "(I)I"⟩, 27), (⟨"MindReadersModel", "countOf", "(I)I"⟩, 27), (⟨"MindReadersModel", "say", "(J)V"⟩, 27), (⟨"MindReadersModel", "sayCode", "(I)V"⟩, 27)]
theorem lw_r4 : ∀ q ∈ lw_privs_4, lw_okq q := List.forall_mem_cons.mpr ⟨lw_p48, List.forall_mem_cons.mpr ⟨lw_p49, List.forall_mem_cons.mpr ⟨lw_p50, List.forall_mem_cons.mpr ⟨lw_p51, List.forall_mem_cons.mpr ⟨lw_p52, List.forall_mem_cons.mpr ⟨lw_p53, List.forall_mem_cons.mpr ⟨lw_p54, List.forall_mem_cons.mpr ⟨lw_p55, List.forall_mem_cons.mpr ⟨lw_p56, List.forall_mem_cons.mpr ⟨lw_p57, List.forall_mem_cons.mpr ⟨lw_p58, List.forall_mem_cons.mpr ⟨lw_p59, List.forall_mem_cons.mpr ⟨lw_p60, fun _ h => absurd h List.not_mem_nil⟩⟩⟩⟩⟩⟩⟩⟩⟩⟩⟩⟩⟩
def lw_privs : List (MethodName × Nat) := lw_privs_1 ++ (lw_privs_2 ++ (lw_privs_3 ++ (lw_privs_4)))
def lw_tbl : List Cond := k2_sels lw_privs ++ tables_1
theorem lw_privs_ok : ∀ q ∈ lw_privs, lw_okq q := by
  show ∀ q ∈ lw_privs_1 ++ (lw_privs_2 ++ (lw_privs_3 ++ (lw_privs_4))), lw_okq q
  exact List.forall_mem_append.mpr ⟨lw_r1, List.forall_mem_append.mpr ⟨lw_r2, List.forall_mem_append.mpr ⟨lw_r3, lw_r4⟩⟩⟩
def RX0 : String := "MindReaders$Code"
def TX0 : u_T := fun k => match k with
  | 0 => ("MindReaders$Code", "spoken", "LMindReaders$Rows;", true)
  | 1 => ("MindReaders$Code", "plain", "LMindReaders$Rows;", true)
  | _ => ("MindReaders$Code", "size", "I", false)
def tyX0 : Nat → FieldType := fun k => match k with
  | 0 => .object "MindReaders$Rows"
  | 1 => .object "MindReaders$Rows"
  | _ => .int
abbrev wsX00 : List Cond := u_ws RX0 TX0 3
theorem nmX0 : ∀ a, a < 3 → ∀ b, b < 3 → a ≠ b → (TX0 a).2.1 ≠ (TX0 b).2.1 := by decide +kernel
theorem tyX0_ok : ∀ k, k < 3 → parseFieldDescriptor (TX0 k).2.2.1 = some (tyX0 k) := by decide +kernel
def RX1 : String := "MindReaders$Notes"
def TX1 : u_T := fun k => match k with
  | 0 => ("MindReaders$Notes", "things", "LMindReaders$Row;", true)
  | _ => ("MindReaders$Notes", "rows", "LMindReaders$Rows;", true)
def tyX1 : Nat → FieldType := fun k => match k with
  | 0 => .object "MindReaders$Row"
  | _ => .object "MindReaders$Rows"
abbrev wsX10 : List Cond := u_ws RX1 TX1 2
theorem nmX1 : ∀ a, a < 2 → ∀ b, b < 2 → a ≠ b → (TX1 a).2.1 ≠ (TX1 b).2.1 := by decide +kernel
theorem tyX1_ok : ∀ k, k < 2 → parseFieldDescriptor (TX1 k).2.2.1 = some (tyX1 k) := by decide +kernel
def RX2 : String := "MindReaders$Readings"
def TX2 : u_T := fun k => match k with
  | 0 => ("MindReaders$Readings", "lengths", "LMindReaders$Row;", true)
  | _ => ("MindReaders$Readings", "best", "I", false)
def tyX2 : Nat → FieldType := fun k => match k with
  | 0 => .object "MindReaders$Row"
  | _ => .int
abbrev wsX20 : List Cond := u_ws RX2 TX2 2
theorem nmX2 : ∀ a, a < 2 → ∀ b, b < 2 → a ≠ b → (TX2 a).2.1 ≠ (TX2 b).2.1 := by decide +kernel
theorem tyX2_ok : ∀ k, k < 2 → parseFieldDescriptor (TX2 k).2.2.1 = some (tyX2 k) := by decide +kernel
def RX3 : String := "MindReaders$Row"
def TX3 : u_T := fun k => match k with
  | 0 => ("MindReaders$Row", "cells", "[I", true)
  | _ => ("MindReaders$Row", "size", "I", false)
def tyX3 : Nat → FieldType := fun k => match k with
  | 0 => .array .int
  | _ => .int
abbrev wsX30 : List Cond := u_ws RX3 TX3 2
theorem nmX3 : ∀ a, a < 2 → ∀ b, b < 2 → a ≠ b → (TX3 a).2.1 ≠ (TX3 b).2.1 := by decide +kernel
theorem tyX3_ok : ∀ k, k < 2 → parseFieldDescriptor (TX3 k).2.2.1 = some (tyX3 k) := by decide +kernel
def RX4 : String := "MindReaders$Rows"
def TX4 : u_T := fun k => match k with
  | 0 => ("MindReaders$Rows", "rows", "[LMindReaders$Row;", true)
  | _ => ("MindReaders$Rows", "nothing", "LMindReaders$Row;", true)
def tyX4 : Nat → FieldType := fun k => match k with
  | 0 => .array (.object "MindReaders$Row")
  | _ => .object "MindReaders$Row"
abbrev wsX40 : List Cond := u_ws RX4 TX4 2
theorem nmX4 : ∀ a, a < 2 → ∀ b, b < 2 → a ≠ b → (TX4 a).2.1 ≠ (TX4 b).2.1 := by decide +kernel
theorem tyX4_ok : ∀ k, k < 2 → parseFieldDescriptor (TX4 k).2.2.1 = some (tyX4 k) := by decide +kernel
def RX5 : String := "MindReaders$Signals"
def TX5 : u_T := fun k => match k with
  | 0 => ("MindReaders$Signals", "kinds", "LMindReaders$Row;", true)
  | 1 => ("MindReaders$Signals", "tones", "LMindReaders$Row;", true)
  | 2 => ("MindReaders$Signals", "seconds", "LMindReaders$Row;", true)
  | _ => ("MindReaders$Signals", "odds", "LMindReaders$Row;", true)
def tyX5 : Nat → FieldType := fun k => match k with
  | 0 => .object "MindReaders$Row"
  | 1 => .object "MindReaders$Row"
  | 2 => .object "MindReaders$Row"
  | _ => .object "MindReaders$Row"
abbrev wsX50 : List Cond := u_ws RX5 TX5 4
theorem nmX5 : ∀ a, a < 4 → ∀ b, b < 4 → a ≠ b → (TX5 a).2.1 ≠ (TX5 b).2.1 := by decide +kernel
theorem tyX5_ok : ∀ k, k < 4 → parseFieldDescriptor (TX5 k).2.2.1 = some (tyX5 k) := by decide +kernel
def RX6 : String := "MindReaders"
def TX6 : u_T := fun k => match k with
  | 0 => ("MindReaders", "signals", "LMindReaders$Signals;", true)
  | 1 => ("MindReaders", "weights", "LMindReaders$Row;", true)
  | 2 => ("MindReaders", "codes", "[LMindReaders$Code;", true)
  | 3 => ("MindReaders", "codesRead", "I", false)
  | 4 => ("MindReaders", "page", "LMindReaders$Row;", true)
  | 5 => ("MindReaders", "notes", "LMindReaders$Notes;", true)
  | 6 => ("MindReaders", "keptWeights", "LMindReaders$Row;", true)
  | 7 => ("MindReaders", "keptNotes", "LMindReaders$Notes;", true)
  | 8 => ("MindReaders", "kept", "Z", false)
  | 9 => ("MindReaders", "said", "LMindReaders$Row;", true)
  | 10 => ("MindReaders", "heard", "LMindReaders$Row;", true)
  | 11 => ("MindReaders", "pool", "LMindReaders$Row;", true)
  | 12 => ("MindReaders", "struck", "LMindReaders$Rows;", true)
  | _ => ("MindReaders", "readings", "LMindReaders$Readings;", true)
def tyX6 : Nat → FieldType := fun k => match k with
  | 0 => .object "MindReaders$Signals"
  | 1 => .object "MindReaders$Row"
  | 2 => .array (.object "MindReaders$Code")
  | 3 => .int
  | 4 => .object "MindReaders$Row"
  | 5 => .object "MindReaders$Notes"
  | 6 => .object "MindReaders$Row"
  | 7 => .object "MindReaders$Notes"
  | 8 => .boolean
  | 9 => .object "MindReaders$Row"
  | 10 => .object "MindReaders$Row"
  | 11 => .object "MindReaders$Row"
  | 12 => .object "MindReaders$Rows"
  | _ => .object "MindReaders$Readings"
abbrev wsX60 : List Cond := u_ws RX6 TX6 14
theorem nmX6 : ∀ a, a < 14 → ∀ b, b < 14 → a ≠ b → (TX6 a).2.1 ≠ (TX6 b).2.1 := by decide +kernel
theorem tyX6_ok : ∀ k, k < 14 → parseFieldDescriptor (TX6 k).2.2.1 = some (tyX6 k) := by decide +kernel
def RX7 : String := "MindReadersModel"
def TX7 : u_T := fun k => match k with
  | 0 => ("MindReadersModel", "page", "[I", true)
  | 1 => ("MindReadersModel", "pageMany", "I", false)
  | 2 => ("MindReadersModel", "readMany", "I", false)
  | 3 => ("MindReadersModel", "readLetters", "I", false)
  | 4 => ("MindReadersModel", "readRows", "[I", true)
  | 5 => ("MindReadersModel", "codes", "I", false)
  | 6 => ("MindReadersModel", "speeches", "[I", true)
  | 7 => ("MindReadersModel", "rows", "[I", true)
  | 8 => ("MindReadersModel", "signals", "I", false)
  | 9 => ("MindReadersModel", "signalRows", "[I", true)
  | 10 => ("MindReadersModel", "things", "I", false)
  | 11 => ("MindReadersModel", "weights", "[I", true)
  | 12 => ("MindReadersModel", "plain", "[I", true)
  | 13 => ("MindReadersModel", "plainMany", "I", false)
  | 14 => ("MindReadersModel", "plains", "[I", true)
  | 15 => ("MindReadersModel", "ahead", "[I", true)
  | 16 => ("MindReadersModel", "least", "I", false)
  | 17 => ("MindReadersModel", "heap", "[I", true)
  | 18 => ("MindReadersModel", "notes", "I", false)
  | 19 => ("MindReadersModel", "noteRows", "[I", true)
  | 20 => ("MindReadersModel", "ways", "[J", true)
  | 21 => ("MindReadersModel", "before", "[J", true)
  | 22 => ("MindReadersModel", "keptThings", "I", false)
  | 23 => ("MindReadersModel", "keptNotes", "I", false)
  | 24 => ("MindReadersModel", "keptWeights", "[I", true)
  | 25 => ("MindReadersModel", "keptRows", "[I", true)
  | _ => ("MindReadersModel", "hash", "J", false)
def tyX7 : Nat → FieldType := fun k => match k with
  | 0 => .array .int
  | 1 => .int
  | 2 => .int
  | 3 => .int
  | 4 => .array .int
  | 5 => .int
  | 6 => .array .int
  | 7 => .array .int
  | 8 => .int
  | 9 => .array .int
  | 10 => .int
  | 11 => .array .int
  | 12 => .array .int
  | 13 => .int
  | 14 => .array .int
  | 15 => .array .int
  | 16 => .int
  | 17 => .array .int
  | 18 => .int
  | 19 => .array .int
  | 20 => .array .long
  | 21 => .array .long
  | 22 => .int
  | 23 => .int
  | 24 => .array .int
  | 25 => .array .int
  | _ => .long
abbrev wsX70 : List Cond := u_ws RX7 TX7 27
theorem nmX7 : ∀ a, a < 27 → ∀ b, b < 27 → a ≠ b → (TX7 a).2.1 ≠ (TX7 b).2.1 := by decide +kernel
theorem tyX7_ok : ∀ k, k < 27 → parseFieldDescriptor (TX7 k).2.2.1 = some (tyX7 k) := by decide +kernel
def RJ6 : String := "java/lang/Integer"
def RJ9 : String := "java/lang/Math"
def RL : String := "MindReadersLaw"
end
section
/-! ===== a pure reading of the bytecode: values are whole numbers or places; a machine int is a number modulo 2^32 ===== -/
abbrev zV : Type := Int ⊕ (Int ⊕ Option Nat)
abbrev zH : Type := List (Nat × List zV)
abbrev zL : Type := List (Option zV)
abbrev zR : Type := Option zV × zH
abbrev zE : Type := Instr × List Nat × Int
/-- the number that a machine int, long stands for -/
def zw (x : Int) : Int := (x + 2147483648) % 4294967296 - 2147483648
def zwl (x : Int) : Int := (x + 9223372036854775808) % 18446744073709551616 - 9223372036854775808
/-- machine operations on bits -/
def zand (a b : Int) : Int := (Int32.ofInt a &&& Int32.ofInt b).toInt
def zor (a b : Int) : Int := (Int32.ofInt a ||| Int32.ofInt b).toInt
def zshl (a b : Int) : Int := (Int32.ofInt a <<< (Int32.ofInt b &&& 31)).toInt
def zshr (a b : Int) : Int := (Int32.ofInt a >>> (Int32.ofInt b &&& 31)).toInt
def zushr (a b : Int) : Int := ((Int32.ofInt a).toUInt32 >>> ((Int32.ofInt b).toUInt32 &&& Int32.toUInt32 31)).toInt32.toInt
def zandl (a b : Int) : Int := (Int64.ofInt a &&& Int64.ofInt b).toInt
def zorl (a b : Int) : Int := (Int64.ofInt a ||| Int64.ofInt b).toInt
def zshll (a b : Int) : Int := (Int64.ofInt a <<< ((Int32.ofInt b).toInt64 &&& 63)).toInt
def zushrl (a b : Int) : Int := ((Int64.ofInt a).toUInt64 >>> ((Int32.ofInt b).toInt64.toUInt64 &&& Int64.toUInt64 63)).toInt64.toInt
/-- reading and writing cells: place 0 is the script, place q + 1 the heap's cell q; a tag below 100 is a class, 100 int[], 101 long[], above: references -/
def zfd (h : zH) (r : Option Nat) (ci k : Nat) : Option zV := match r with
  | some (p + 1) => match h[p]? with
    | some c => if c.1 = ci then c.2[k]? else none
    | none => none
  | _ => none
def zgi (h : zH) (r : Option Nat) (ci k : Nat) (f : Int → Option zR) : Option zR := match zfd h r ci k with
  | some (.inl v) => f v
  | _ => none
def zgl (h : zH) (r : Option Nat) (ci k : Nat) (f : Int → Option zR) : Option zR := match zfd h r ci k with
  | some (.inr (.inl v)) => f v
  | _ => none
def zgr (h : zH) (r : Option Nat) (ci k : Nat) (f : Option Nat → Option zR) : Option zR := match zfd h r ci k with
  | some (.inr (.inr v)) => f v
  | _ => none
def zput (h : zH) (p k : Nat) (v : zV) : zH := match h[p]? with
  | some c => h.set p (c.1, c.2.set k v)
  | none => h
def zpf (h : zH) (r : Option Nat) (ci k : Nat) (v : zV) (f : zH → Option zR) : Option zR := match r with
  | some (p + 1) => match h[p]? with
    | some c => if c.1 = ci ∧ k < c.2.length then f (h.set p (c.1, c.2.set k v)) else none
    | none => none
  | _ => none
def zar (xs : List Int) (h : zH) (r : Option Nat) (tag : Nat) (i : Int) : Option zV := match r with
  | some 0 => if tag = 100 ∧ 0 ≤ zw i then (xs[(zw i).toNat]?).map .inl else none
  | some (p + 1) => match h[p]? with
    | some c => if c.1 = tag ∧ 0 ≤ zw i then c.2[(zw i).toNat]? else none
    | none => none
  | none => none
def zai (xs : List Int) (h : zH) (r : Option Nat) (i : Int) (f : Int → Option zR) : Option zR := match zar xs h r 100 i with
  | some (.inl v) => f v
  | _ => none
def zal (xs : List Int) (h : zH) (r : Option Nat) (i : Int) (f : Int → Option zR) : Option zR := match zar xs h r 101 i with
  | some (.inr (.inl v)) => f v
  | _ => none
def zaa (xs : List Int) (h : zH) (r : Option Nat) (tag : Nat) (i : Int) (f : Option Nat → Option zR) : Option zR := match zar xs h r tag i with
  | some (.inr (.inr v)) => f v
  | _ => none
def zst (h : zH) (r : Option Nat) (tag : Nat) (i : Int) (v : zV) (f : zH → Option zR) : Option zR := match r with
  | some (p + 1) => match h[p]? with
    | some c => if c.1 = tag ∧ 0 ≤ zw i ∧ (zw i).toNat < c.2.length then f (h.set p (c.1, c.2.set (zw i).toNat v)) else none
    | none => none
  | _ => none
def zln (xs : List Int) (h : zH) (r : Option Nat) (f : Int → Option zR) : Option zR := match r with
  | some 0 => f xs.length
  | some (p + 1) => match h[p]? with
    | some c => if 100 ≤ c.1 then f c.2.length else none
    | none => none
  | none => none
def zro (r : Option Nat) (f : Nat → Option zR) : Option zR := match r with
  | some p => f p
  | none => none
def zif (r : Option Nat) (a : Option zR) (b : Option zR) : Option zR := match r with
  | none => a
  | some _ => b
def zci (o : Option zR) (f : Int → zH → Option zR) : Option zR := match o with
  | some (some (.inl v), h) => f v h
  | _ => none
def zcl (o : Option zR) (f : Int → zH → Option zR) : Option zR := match o with
  | some (some (.inr (.inl v)), h) => f v h
  | _ => none
def zcr (o : Option zR) (f : Option Nat → zH → Option zR) : Option zR := match o with
  | some (some (.inr (.inr v)), h) => f v h
  | _ => none
def zcv (o : Option zR) (f : zH → Option zR) : Option zR := match o with
  | some (none, h) => f h
  | _ => none
/-- the locals -/
def zcat (v : zV) : Nat := match v with
  | .inr (.inl _) => 2
  | _ => 1
def zargs : List zV → zL
  | [] => []
  | .inr (.inl x) :: t => some (.inr (.inl x)) :: none :: zargs t
  | .inl x :: t => some (.inl x) :: zargs t
  | .inr (.inr x) :: t => some (.inr (.inr x)) :: zargs t
def zkeep : List Nat → zL → zL
  | [], _ => []
  | _ :: _, [] => []
  | 0 :: m, _ :: t => none :: zkeep m t
  | (_ + 1) :: m, v :: t => v :: zkeep m t
/-- L with place i set; a long that stood one place before is lost -/
def zset1 : zL → Nat → Option zV → zL
  | [], 0, v => [v]
  | [], i + 1, v => none :: zset1 [] i v
  | _ :: t, 0, v => v :: t
  | some (.inr (.inl _)) :: t, 1, v => none :: zset1 t 0 v
  | a :: t, i + 1, v => a :: zset1 t i v
def zset2 : zL → Nat → Option zV → zL
  | [], 0, v => [v, none]
  | [], i + 1, v => none :: zset2 [] i v
  | [_], 0, v => [v, none]
  | _ :: _ :: t, 0, v => v :: none :: t
  | some (.inr (.inl _)) :: t, 1, v => none :: zset2 t 0 v
  | a :: t, i + 1, v => a :: zset2 t i v
def zld (L : zL) (i : Nat) : Option zV := match L[i]? with
  | some (some v) => some v
  | _ => none
/-- one instruction that neither jumps nor calls: what it leaves goes to k -/
def zS (xs : List Int) (I : Instr) (x : List Nat) (c : Int) (L : zL) (st : List zV) (h : zH) (k : zL → List zV → zH → Option zR) : Option zR := match I with
  | .iconst n => k L (.inl n :: st) h
  | .bipush n => k L (.inl n :: st) h
  | .sipush n => k L (.inl n :: st) h
  | .ldc _ => k L (.inl c :: st) h
  | .ldc_w _ => k L (.inl c :: st) h
  | .lconst n => k L (.inr (.inl ((n : Nat) : Int)) :: st) h
  | .ldc2_w _ => k L (.inr (.inl c) :: st) h
  | .aconst_null => k L (.inr (.inr none) :: st) h
  | .iload i => match zld L i with | some (.inl v) => k L (.inl v :: st) h | _ => none
  | .iload_n i => match zld L i with | some (.inl v) => k L (.inl v :: st) h | _ => none
  | .lload i => match zld L i with | some (.inr (.inl v)) => k L (.inr (.inl v) :: st) h | _ => none
  | .lload_n i => match zld L i with | some (.inr (.inl v)) => k L (.inr (.inl v) :: st) h | _ => none
  | .aload i => match zld L i with | some (.inr (.inr v)) => k L (.inr (.inr v) :: st) h | _ => none
  | .aload_n i => match zld L i with | some (.inr (.inr v)) => k L (.inr (.inr v) :: st) h | _ => none
  | .istore i => match st with | .inl v :: st => k (zset1 L i (some (.inl v))) st h | _ => none
  | .istore_n i => match st with | .inl v :: st => k (zset1 L i (some (.inl v))) st h | _ => none
  | .lstore i => match st with | .inr (.inl v) :: st => k (zset2 L i (some (.inr (.inl v)))) st h | _ => none
  | .lstore_n i => match st with | .inr (.inl v) :: st => k (zset2 L i (some (.inr (.inl v)))) st h | _ => none
  | .astore i => match st with | .inr (.inr v) :: st => k (zset1 L i (some (.inr (.inr v)))) st h | _ => none
  | .astore_n i => match st with | .inr (.inr v) :: st => k (zset1 L i (some (.inr (.inr v)))) st h | _ => none
  | .iinc i n => match zld L i with | some (.inl v) => k (zset1 L i (some (.inl (v + n)))) st h | _ => none
  | .iadd => match st with | .inl b :: .inl a :: st => k L (.inl (a + b) :: st) h | _ => none
  | .isub => match st with | .inl b :: .inl a :: st => k L (.inl (a - b) :: st) h | _ => none
  | .imul => match st with | .inl b :: .inl a :: st => k L (.inl (a * b) :: st) h | _ => none
  | .ineg => match st with | .inl a :: st => k L (.inl (-a) :: st) h | _ => none
  | .idiv => match st with | .inl b :: .inl a :: st => if zw b = 0 then none else k L (.inl ((zw a).tdiv (zw b)) :: st) h | _ => none
  | .irem => match st with | .inl b :: .inl a :: st => if zw b = 0 then none else k L (.inl ((zw a).tmod (zw b)) :: st) h | _ => none
  | .iand => match st with | .inl b :: .inl a :: st => k L (.inl (zand a b) :: st) h | _ => none
  | .ior => match st with | .inl b :: .inl a :: st => k L (.inl (zor a b) :: st) h | _ => none
  | .ishl => match st with | .inl b :: .inl a :: st => k L (.inl (zshl a b) :: st) h | _ => none
  | .ishr => match st with | .inl b :: .inl a :: st => k L (.inl (zshr a b) :: st) h | _ => none
  | .iushr => match st with | .inl b :: .inl a :: st => k L (.inl (zushr a b) :: st) h | _ => none
  | .i2l => match st with | .inl a :: st => k L (.inr (.inl (zw a)) :: st) h | _ => none
  | .l2i => match st with | .inr (.inl a) :: st => k L (.inl a :: st) h | _ => none
  | .ladd => match st with | .inr (.inl b) :: .inr (.inl a) :: st => k L (.inr (.inl (a + b)) :: st) h | _ => none
  | .lsub => match st with | .inr (.inl b) :: .inr (.inl a) :: st => k L (.inr (.inl (a - b)) :: st) h | _ => none
  | .lmul => match st with | .inr (.inl b) :: .inr (.inl a) :: st => k L (.inr (.inl (a * b)) :: st) h | _ => none
  | .lneg => match st with | .inr (.inl a) :: st => k L (.inr (.inl (-a)) :: st) h | _ => none
  | .ldiv => match st with | .inr (.inl b) :: .inr (.inl a) :: st => if zwl b = 0 then none else k L (.inr (.inl ((zwl a).tdiv (zwl b))) :: st) h | _ => none
  | .lrem => match st with | .inr (.inl b) :: .inr (.inl a) :: st => if zwl b = 0 then none else k L (.inr (.inl ((zwl a).tmod (zwl b))) :: st) h | _ => none
  | .land => match st with | .inr (.inl b) :: .inr (.inl a) :: st => k L (.inr (.inl (zandl a b)) :: st) h | _ => none
  | .lor => match st with | .inr (.inl b) :: .inr (.inl a) :: st => k L (.inr (.inl (zorl a b)) :: st) h | _ => none
  | .lshl => match st with | .inl b :: .inr (.inl a) :: st => k L (.inr (.inl (zshll a b)) :: st) h | _ => none
  | .lushr => match st with | .inl b :: .inr (.inl a) :: st => k L (.inr (.inl (zushrl a b)) :: st) h | _ => none
  | .lcmp => match st with | .inr (.inl b) :: .inr (.inl a) :: st => k L (.inl (if zwl a < zwl b then -1 else if zwl a = zwl b then 0 else 1) :: st) h | _ => none
  | .dup => match st with | .inl a :: st => k L (.inl a :: .inl a :: st) h | .inr (.inr a) :: st => k L (.inr (.inr a) :: .inr (.inr a) :: st) h | _ => none
  | .dup2 => match st with | .inl b :: .inr (.inr a) :: st => k L (.inl b :: .inr (.inr a) :: .inl b :: .inr (.inr a) :: st) h | _ => none
  | .pop => match st with | .inl _ :: st => k L st h | .inr (.inr _) :: st => k L st h | _ => none
  | .getfield _ => match x, st with
    | [ci, j, 0], .inr (.inr r) :: st => zgi h r ci j fun v => k L (.inl v :: st) h
    | [ci, j, 1], .inr (.inr r) :: st => zgl h r ci j fun v => k L (.inr (.inl v) :: st) h
    | [ci, j, 2], .inr (.inr r) :: st => zgr h r ci j fun v => k L (.inr (.inr v) :: st) h
    | _, _ => none
  | .putfield _ => match x, st with
    | [ci, j, 0], .inl v :: .inr (.inr r) :: st => zpf h r ci j (.inl v) fun h => k L st h
    | [ci, j, 1], .inr (.inl v) :: .inr (.inr r) :: st => zpf h r ci j (.inr (.inl v)) fun h => k L st h
    | [ci, j, 2], .inr (.inr v) :: .inr (.inr r) :: st => zpf h r ci j (.inr (.inr v)) fun h => k L st h
    | [ci, j, 3], .inl v :: .inr (.inr r) :: st => if v = 0 ∨ v = 1 then zpf h r ci j (.inl v) fun h => k L st h else none
    | _, _ => none
  | .iaload => match st with | .inl i :: .inr (.inr r) :: st => zai xs h r i fun v => k L (.inl v :: st) h | _ => none
  | .laload => match st with | .inl i :: .inr (.inr r) :: st => zal xs h r i fun v => k L (.inr (.inl v) :: st) h | _ => none
  | .aaload => match x, st with | [tag], .inl i :: .inr (.inr r) :: st => zaa xs h r tag i fun v => k L (.inr (.inr v) :: st) h | _, _ => none
  | .iastore => match st with | .inl v :: .inl i :: .inr (.inr r) :: st => zst h r 100 i (.inl v) fun h => k L st h | _ => none
  | .lastore => match st with | .inr (.inl v) :: .inl i :: .inr (.inr r) :: st => zst h r 101 i (.inr (.inl v)) fun h => k L st h | _ => none
  | .aastore => match x, st with | [tag, ci], .inr (.inr (some v)) :: .inl i :: .inr (.inr r) :: st => (match v with | 0 => none | q + 1 => match h[q]? with | some c => if c.1 = ci then zst h r tag i (.inr (.inr (some (q + 1)))) fun h => k L st h else none | none => none) | _, _ => none
  | .arraylength => match st with | .inr (.inr r) :: st => zln xs h r fun v => k L (.inl v :: st) h | _ => none
  | .new _ => match x with
    | ci :: tys => k L (.inr (.inr (some (h.length + 1))) :: st) (h ++ [(ci, tys.map fun t => match t with | 0 => .inl 0 | 1 => .inr (.inl 0) | _ => .inr (.inr none))])
    | _ => none
  | .newarray _ => match x, st with
    | [0], .inl n :: st => if 0 ≤ zw n ∧ zw n ≤ 1000000 then k L (.inr (.inr (some (h.length + 1))) :: st) (h ++ [(100, List.replicate (zw n).toNat (.inl 0))]) else none
    | [1], .inl n :: st => if 0 ≤ zw n ∧ zw n ≤ 1000000 then k L (.inr (.inr (some (h.length + 1))) :: st) (h ++ [(101, List.replicate (zw n).toNat (.inr (.inl 0)))]) else none
    | _, _ => none
  | .anewarray _ => match x, st with
    | [tag], .inl n :: st => if 0 ≤ zw n ∧ zw n ≤ 1000000 then k L (.inr (.inr (some (h.length + 1))) :: st) (h ++ [(tag, List.replicate (zw n).toNat (.inr (.inr none)))]) else none
    | _, _ => none
  | _ => none
def zsel (o : Option Nat) (f : Nat → Option zR) : Option zR := match o with
  | some t => f t
  | none => none
/-- a jump: the locals that live on -/
def zJ (rec : Nat → zL → List zV → zH → Option zR) (x : List Nat) (L : zL) (st : List zV) (h : zH) : Option zR := match x with
  | t :: m => rec t (zkeep m L) st h
  | [] => none
def zY (t : Nat) (o : Option zR) (L : zL) (st : List zV) (k : zL → List zV → zH → Option zR) : Option zR := match t with
  | 0 => zcv o fun h => k L st h
  | 1 => zci o fun v h => k L (.inl v :: st) h
  | 2 => zcl o fun v h => k L (.inr (.inl v) :: st) h
  | 3 => zcr o fun v h => k L (.inr (.inr v) :: st) h
  | _ => none
def zrcv (l : List zV) : Option Nat := match l with
  | .inr (.inr r) :: _ => r
  | _ => none
/-- the receiver is an object of that class -/
def zck (h : zH) (r : Option Nat) (ci : Nat) (o : Option zR) : Option zR := match r with
  | some (p + 1) => match h[p]? with
    | some c => if c.1 = ci then o else none
    | none => none
  | _ => none
/-- words on the stack -/
def zcs : List zV → Nat
  | [] => 0
  | v :: t => zcat v + zcs t
def zX (rec : Nat → Nat → zL → List zV → zH → Option zR) (x : List Nat) (L : zL) (st : List zV) (h : zH) (k : zL → List zV → zH → Option zR) : Option zR := match x with
  | [m, n, t, mx] => if n ≤ st.length ∧ zcs (st.drop n) ≤ 8 ∧ (zargs (st.take n).reverse).length ≤ mx then zY t (rec m 0 (zargs (st.take n).reverse) [] h) L (st.drop n) k else none
  | [m, n, t, mx, ci] => if n ≤ st.length ∧ zcs (st.drop n) ≤ 8 ∧ (zargs (st.take n).reverse).length ≤ mx then zck h (zrcv (st.take n).reverse) ci (zY t (rec m 0 (zargs (st.take n).reverse) [] h) L (st.drop n) k) else none
  | _ => none
/-- one instruction -/
def zI (xs : List Int) (rec : Nat → Nat → zL → List zV → zH → Option zR) (m : Nat) (I : Instr) (x : List Nat) (c : Int) (L : zL) (st : List zV) (h : zH) (k : zL → List zV → zH → Option zR) : Option zR := match I with
  | .nop => zJ (rec m) x L st h
  | .goto _ => zJ (rec m) x L st h
  | .ifCond .eq _ => match st with | .inl a :: st => if zw a = 0 then zJ (rec m) x L st h else k L st h | _ => none
  | .ifCond .ne _ => match st with | .inl a :: st => if zw a ≠ 0 then zJ (rec m) x L st h else k L st h | _ => none
  | .ifCond .lt _ => match st with | .inl a :: st => if zw a < 0 then zJ (rec m) x L st h else k L st h | _ => none
  | .ifCond .ge _ => match st with | .inl a :: st => if 0 ≤ zw a then zJ (rec m) x L st h else k L st h | _ => none
  | .ifCond .gt _ => match st with | .inl a :: st => if 0 < zw a then zJ (rec m) x L st h else k L st h | _ => none
  | .ifCond .le _ => match st with | .inl a :: st => if zw a ≤ 0 then zJ (rec m) x L st h else k L st h | _ => none
  | .if_icmp .eq _ => match st with | .inl b :: .inl a :: st => if zw a = zw b then zJ (rec m) x L st h else k L st h | _ => none
  | .if_icmp .ne _ => match st with | .inl b :: .inl a :: st => if zw a ≠ zw b then zJ (rec m) x L st h else k L st h | _ => none
  | .if_icmp .lt _ => match st with | .inl b :: .inl a :: st => if zw a < zw b then zJ (rec m) x L st h else k L st h | _ => none
  | .if_icmp .ge _ => match st with | .inl b :: .inl a :: st => if zw b ≤ zw a then zJ (rec m) x L st h else k L st h | _ => none
  | .if_icmp .gt _ => match st with | .inl b :: .inl a :: st => if zw b < zw a then zJ (rec m) x L st h else k L st h | _ => none
  | .if_icmp .le _ => match st with | .inl b :: .inl a :: st => if zw a ≤ zw b then zJ (rec m) x L st h else k L st h | _ => none
  | .ifnull _ => match st with | .inr (.inr r) :: st => zif r (zJ (rec m) x L st h) (k L st h) | _ => none
  | .ifnonnull _ => match st with | .inr (.inr r) :: st => zif r (k L st h) (zJ (rec m) x L st h) | _ => none
  | .tableswitch _ lo hi _ => match x, st with
    | n :: d :: x, .inl a :: st => if zw a < lo ∨ hi < zw a then rec m d (zkeep (x.take n) L) st h else zsel ((x.drop n)[(zw a - lo).toNat]?) fun t => rec m t (zkeep (x.take n) L) st h
    | _, _ => none
  | .ireturn => match x, st with
    | [0], [.inl a] => some (some (.inl a), h)
    | [1], [.inl a] => if a = 0 ∨ a = 1 then some (some (.inl a), h) else none
    | _, _ => none
  | .lreturn => match st with | [.inr (.inl a)] => some (some (.inr (.inl a)), h) | _ => none
  | .areturn => match st with | [.inr (.inr a)] => some (some (.inr (.inr a)), h) | _ => none
  | .return_ => match st with | [] => some (none, h) | _ => none
  | .invokevirtual _ => zX rec x L st h k
  | .invokestatic _ => match x with
    | [0] => match st with | .inl b :: .inl a :: st => if zcs st ≤ 8 then k L (.inl (if zw a < zw b then b else a) :: st) h else none | _ => none
    | [1] => match st with | .inl b :: .inl a :: st => if zcs st ≤ 8 then k L (.inl (if zw b < zw a then b else a) :: st) h else none | _ => none
    | x => zX rec x L st h k
  | .invokespecial _ => match x with
    | [] => match st with | [.inr (.inr (some _))] => k L [] h | _ => none
    | x => zX rec x L st h k
  | I => zS xs I x c L st h k
def zB (xs : List Int) (rec : Nat → Nat → zL → List zV → zH → Option zR) (m : Nat) : List zE → zL → List zV → zH → Option zR
  | [], _, _, _ => none
  | (I, x, c) :: t, L, st, h => zI xs rec m I x c L st h (zB xs rec m t)
end
section
/-! ===== what a reading comes to, with no bound on its steps ===== -/
def zrun (B : Nat → Nat → Option (List zE)) (xs : List Int) : Nat → Nat → Nat → zL → List zV → zH → Option zR
  | 0, _, _, _, _, _ => none
  | n + 1, m, pc, L, st, h => match B m pc with
    | some b => zB xs (zrun B xs n) m b L st h
    | none => none
noncomputable def zx (B : Nat → Nat → Option (List zE)) (xs : List Int) (m pc : Nat) (L : zL) (st : List zV) (h : zH) : Option zR :=
  @dite _ (∃ r n, zrun B xs n m pc L st h = some r) (Classical.propDecidable _) (fun q => some (Classical.choose q)) (fun _ => none)
/-- the heap grows -/
def zsz : zH → Nat
  | [] => 0
  | c :: t => c.2.length + zsz t
def zge (h h' : zH) : Prop := h.length ≤ h'.length ∧ zsz h ≤ zsz h'
theorem zge_rf (h : zH) : zge h h := ⟨Nat.le_refl _, Nat.le_refl _⟩
theorem zge_tr {a b c : zH} (h1 : zge a b) (h2 : zge b c) : zge a c := ⟨Nat.le_trans h1.1 h2.1, Nat.le_trans h1.2 h2.2⟩
theorem zsz_app (a b : zH) : zsz (a ++ b) = zsz a + zsz b := by
  induction a with
  | nil => simp [zsz]
  | cons c t ih => simp [zsz, ih]; omega
theorem zsz_set : ∀ (h : zH) (p : Nat) (c c' : Nat × List zV), h[p]? = some c → c'.2.length = c.2.length → zsz (h.set p c') = zsz h
  | [], p, c, c', q, _ => by simp at q
  | d :: t, 0, c, c', q, e => by
    simp at q
    subst q
    simp [zsz, e]
  | d :: t, p + 1, c, c', q, e => by
    simp at q
    simp [zsz, zsz_set t p c c' q e]
theorem zge_set {h : zH} {p : Nat} {c c' : Nat × List zV} (q : h[p]? = some c) (e : c'.2.length = c.2.length) : zge h (h.set p c') := ⟨by simp, Nat.le_of_eq (zsz_set h p c c' q e).symm⟩
theorem zge_app (h : zH) (c : Nat × List zV) : zge h (h ++ [c]) := ⟨by simp, by rw [zsz_app]; omega⟩
/-- a step that passes on at most one state, whatever it is passed to -/
def zlin (h0 : zH) (F : (zL → List zV → zH → Option zR) → Option zR) : Prop := (∀ k, F k = none) ∨ ∃ L' st' h', zge h0 h' ∧ ∀ k, F k = k L' st' h'
theorem zlin_none {h0 : zH} : zlin h0 (fun _ => none) := Or.inl fun _ => rfl
theorem zlin_k (L : zL) (st : List zV) (h : zH) : zlin h (fun k => k L st h) := Or.inr ⟨L, st, h, zge_rf h, fun _ => rfl⟩
theorem zlin_kg {h0 : zH} (L : zL) (st : List zV) (h : zH) (hg : zge h0 h) : zlin h0 (fun k => k L st h) := Or.inr ⟨L, st, h, hg, fun _ => rfl⟩
theorem zlin_if {h0 : zH} {c : Prop} [Decidable c] {F G : (zL → List zV → zH → Option zR) → Option zR} (hF : zlin h0 F) (hG : zlin h0 G) : zlin h0 (fun k => if c then F k else G k) := by
  by_cases hc : c
  · simp only [hc, if_true]; exact hF
  · simp only [hc, if_false]; exact hG
theorem zlin_gi (h : zH) (r : Option Nat) (ci j : Nat) (f : (zL → List zV → zH → Option zR) → Int → Option zR) (hf : ∀ v, zlin h (fun k => f k v)) : zlin h (fun k => zgi h r ci j (f k)) := by
  unfold zgi; rcases zfd h r ci j with _ | v | v | v <;> first | exact zlin_none | exact hf v
theorem zlin_gl (h : zH) (r : Option Nat) (ci j : Nat) (f : (zL → List zV → zH → Option zR) → Int → Option zR) (hf : ∀ v, zlin h (fun k => f k v)) : zlin h (fun k => zgl h r ci j (f k)) := by
  unfold zgl; rcases zfd h r ci j with _ | v | v | v <;> first | exact zlin_none | exact hf v
theorem zlin_gr (h : zH) (r : Option Nat) (ci j : Nat) (f : (zL → List zV → zH → Option zR) → Option Nat → Option zR) (hf : ∀ v, zlin h (fun k => f k v)) : zlin h (fun k => zgr h r ci j (f k)) := by
  unfold zgr; rcases zfd h r ci j with _ | v | v | v <;> first | exact zlin_none | exact hf v
theorem zlin_pf (h : zH) (r : Option Nat) (ci j : Nat) (v : zV) (f : (zL → List zV → zH → Option zR) → zH → Option zR) (hf : ∀ v, zge h v → zlin h (fun k => f k v)) : zlin h (fun k => zpf h r ci j v (f k)) := by
  unfold zpf
  rcases r with _ | _ | p
  · exact zlin_none
  · exact zlin_none
  · dsimp only
    cases hc : h[p]? with
    | none => exact zlin_none
    | some c => exact zlin_if (hf _ (zge_set hc (by simp))) zlin_none
theorem zlin_ai (xs : List Int) (h : zH) (r : Option Nat) (i : Int) (f : (zL → List zV → zH → Option zR) → Int → Option zR) (hf : ∀ v, zlin h (fun k => f k v)) : zlin h (fun k => zai xs h r i (f k)) := by
  unfold zai; rcases zar xs h r 100 i with _ | v | v | v <;> first | exact zlin_none | exact hf v
theorem zlin_al (xs : List Int) (h : zH) (r : Option Nat) (i : Int) (f : (zL → List zV → zH → Option zR) → Int → Option zR) (hf : ∀ v, zlin h (fun k => f k v)) : zlin h (fun k => zal xs h r i (f k)) := by
  unfold zal; rcases zar xs h r 101 i with _ | v | v | v <;> first | exact zlin_none | exact hf v
theorem zlin_aa (xs : List Int) (h : zH) (r : Option Nat) (tag : Nat) (i : Int) (f : (zL → List zV → zH → Option zR) → Option Nat → Option zR) (hf : ∀ v, zlin h (fun k => f k v)) : zlin h (fun k => zaa xs h r tag i (f k)) := by
  unfold zaa; rcases zar xs h r tag i with _ | v | v | v <;> first | exact zlin_none | exact hf v
theorem zlin_st (h : zH) (r : Option Nat) (tag : Nat) (i : Int) (v : zV) (f : (zL → List zV → zH → Option zR) → zH → Option zR) (hf : ∀ v, zge h v → zlin h (fun k => f k v)) : zlin h (fun k => zst h r tag i v (f k)) := by
  unfold zst
  rcases r with _ | _ | p
  · exact zlin_none
  · exact zlin_none
  · dsimp only
    cases hc : h[p]? with
    | none => exact zlin_none
    | some c => exact zlin_if (hf _ (zge_set hc (by simp))) zlin_none
theorem zlin_ln (xs : List Int) (h : zH) (r : Option Nat) (f : (zL → List zV → zH → Option zR) → Int → Option zR) (hf : ∀ v, zlin h (fun k => f k v)) : zlin h (fun k => zln xs h r (f k)) := by
  unfold zln
  rcases r with _ | _ | p
  · exact zlin_none
  · exact hf _
  · dsimp only
    cases h[p]? with
    | none => exact zlin_none
    | some c => exact zlin_if (hf _) zlin_none
theorem zS_lin (xs : List Int) (I : Instr) (x : List Nat) (c : Int) (L : zL) (st : List zV) (h : zH) : zlin h (fun k => zS xs I x c L st h k) := by
  cases I
  case iload i => simp only [zS]; rcases zld L i with _ | v | v | v <;> first | exact zlin_none | exact zlin_k _ _ _
  case iload_n i => simp only [zS]; rcases zld L i with _ | v | v | v <;> first | exact zlin_none | exact zlin_k _ _ _
  case lload i => simp only [zS]; rcases zld L i with _ | v | v | v <;> first | exact zlin_none | exact zlin_k _ _ _
  case lload_n i => simp only [zS]; rcases zld L i with _ | v | v | v <;> first | exact zlin_none | exact zlin_k _ _ _
  case aload i => simp only [zS]; rcases zld L i with _ | v | v | v <;> first | exact zlin_none | exact zlin_k _ _ _
  case aload_n i => simp only [zS]; rcases zld L i with _ | v | v | v <;> first | exact zlin_none | exact zlin_k _ _ _
  case iinc i n => simp only [zS]; rcases zld L i with _ | v | v | v <;> first | exact zlin_none | exact zlin_k _ _ _
  case getfield i =>
    rcases x with _ | ⟨ci, _ | ⟨j, _ | ⟨_ | _ | _ | ty, _ | ⟨x4, x⟩⟩⟩⟩ <;> rcases st with _ | ⟨a | a | a, st⟩ <;> first | exact zlin_none | exact zlin_gi _ _ _ _ _ fun v => zlin_k _ _ _ | exact zlin_gl _ _ _ _ _ fun v => zlin_k _ _ _ | exact zlin_gr _ _ _ _ _ fun v => zlin_k _ _ _
  case putfield i =>
    rcases x with _ | ⟨ci, _ | ⟨j, _ | ⟨_ | _ | _ | _ | ty, _ | ⟨x4, x⟩⟩⟩⟩ <;> rcases st with _ | ⟨a | a | a, _ | ⟨b | b | b, st⟩⟩ <;> first | exact zlin_none | exact zlin_pf _ _ _ _ _ _ fun v hv => zlin_kg _ _ _ hv | exact zlin_if (zlin_pf _ _ _ _ _ _ fun v hv => zlin_kg _ _ _ hv) zlin_none
  case iaload => rcases st with _ | ⟨a | a | a, _ | ⟨b | b | b, st⟩⟩ <;> first | exact zlin_none | exact zlin_ai _ _ _ _ _ fun v => zlin_k _ _ _
  case laload => rcases st with _ | ⟨a | a | a, _ | ⟨b | b | b, st⟩⟩ <;> first | exact zlin_none | exact zlin_al _ _ _ _ _ fun v => zlin_k _ _ _
  case aaload => rcases x with _ | ⟨t, _ | ⟨t2, x⟩⟩ <;> rcases st with _ | ⟨a | a | a, _ | ⟨b | b | b, st⟩⟩ <;> first | exact zlin_none | exact zlin_aa _ _ _ _ _ _ fun v => zlin_k _ _ _
  case iastore => rcases st with _ | ⟨a | a | a, _ | ⟨b | b | b, _ | ⟨d | d | d, st⟩⟩⟩ <;> first | exact zlin_none | exact zlin_st _ _ _ _ _ _ fun v hv => zlin_kg _ _ _ hv
  case lastore => rcases st with _ | ⟨a | a | a, _ | ⟨b | b | b, _ | ⟨d | d | d, st⟩⟩⟩ <;> first | exact zlin_none | exact zlin_st _ _ _ _ _ _ fun v hv => zlin_kg _ _ _ hv
  case aastore =>
    rcases x with _ | ⟨t, _ | ⟨t2, _ | ⟨t3, x⟩⟩⟩ <;> rcases st with _ | ⟨a | a | (_ | _ | a), _ | ⟨b | b | b, _ | ⟨d | d | d, st⟩⟩⟩ <;> first | exact zlin_none | skip
    simp only [zS]
    cases h[a]? with
    | none => exact zlin_none
    | some c => exact zlin_if (zlin_st _ _ _ _ _ _ fun v hv => zlin_kg _ _ _ hv) zlin_none
  case arraylength => rcases st with _ | ⟨a | a | a, st⟩ <;> first | exact zlin_none | exact (show zlin h (fun k => zln xs h a fun v => k L (.inl v :: st) h) from zlin_ln _ _ _ (fun k v => k L (.inl v :: st) h) fun v => zlin_k _ _ _)
  case new i => rcases x with _ | ⟨t, x⟩ <;> first | exact zlin_none | exact zlin_kg _ _ _ (zge_app _ _)
  case newarray i =>
    rcases x with _ | ⟨_ | _ | t, _ | ⟨t2, x⟩⟩ <;> rcases st with _ | ⟨a | a | a, st⟩ <;> first | exact zlin_none | exact zlin_if (zlin_kg _ _ _ (zge_app _ _)) zlin_none
  case anewarray i =>
    rcases x with _ | ⟨t, _ | ⟨t2, x⟩⟩ <;> rcases st with _ | ⟨a | a | a, st⟩ <;> first | exact zlin_none | exact zlin_if (zlin_kg _ _ _ (zge_app _ _)) zlin_none
  all_goals first
    | exact zlin_none
    | exact zlin_k _ _ _
    | (rcases st with _ | ⟨a | a | a, st⟩ <;> first | exact zlin_none | exact zlin_k _ _ _ | (rcases st with _ | ⟨b | b | b, st⟩ <;> first | exact zlin_none | exact zlin_k _ _ _ | exact zlin_if zlin_none (zlin_k _ _ _)))

/-- what a bounded reading gives, a longer one gives; what the limit gives, a bounded one gives -/
theorem zcont_J (B : Nat → Nat → Option (List zE)) (R : Nat → Nat → Nat → zL → List zV → zH → Option zR) (R0 : Nat → Nat → zL → List zV → zH → Option zR) (hR : ∀ m pc L st h r, R0 m pc L st h = some r → ∃ N, ∀ n, N ≤ n → R n m pc L st h = some r)
    (m : Nat) (x : List Nat) (L : zL) (st : List zV) (h : zH) (r : zR) (q : zJ (R0 m) x L st h = some r) : ∃ N, ∀ n, N ≤ n → zJ (R n m) x L st h = some r := by
  rcases x with _ | ⟨t, x⟩
  · cases q
  · exact hR _ _ _ _ _ _ q
theorem zcont_if {c : Prop} [Decidable c] {a0 b0 : Option zR} {a b : Nat → Option zR} {r : zR} (ha : a0 = some r → ∃ N, ∀ n, N ≤ n → a n = some r) (hb : b0 = some r → ∃ N, ∀ n, N ≤ n → b n = some r) (q : (if c then a0 else b0) = some r) : ∃ N, ∀ n, N ≤ n → (if c then a n else b n) = some r := by
  by_cases hc : c
  · rw [if_pos hc] at q
    obtain ⟨N, e⟩ := ha q
    exact ⟨N, fun n hn => by rw [if_pos hc]; exact e n hn⟩
  · rw [if_neg hc] at q
    obtain ⟨N, e⟩ := hb q
    exact ⟨N, fun n hn => by rw [if_neg hc]; exact e n hn⟩
theorem zcont_Y {o0 : Option zR} {o : Nat → Option zR} (ho : ∀ r1, o0 = some r1 → ∃ N, ∀ n, N ≤ n → o n = some r1) (t : Nat) (L : zL) (st : List zV) (k0 : zL → List zV → zH → Option zR) (k : Nat → zL → List zV → zH → Option zR) (r : zR) (hk : ∀ L' st' h', k0 L' st' h' = some r → ∃ N, ∀ n, N ≤ n → k n L' st' h' = some r)
    (q : zY t o0 L st k0 = some r) : ∃ N, ∀ n, N ≤ n → zY t (o n) L st (k n) = some r := by
  cases h1 : o0 with
  | none => rcases t with _ | _ | _ | _ | t <;> rw [h1] at q <;> cases q
  | some r1 =>
    obtain ⟨N1, e1⟩ := ho r1 h1
    rw [h1] at q
    obtain ⟨v, h2⟩ := r1
    rcases t with _ | _ | _ | _ | t <;> rcases v with _ | v | v | v <;> simp only [zY, zcv, zci, zcl, zcr] at q <;> first
      | (cases q; done)
      | (obtain ⟨N2, e2⟩ := hk _ _ _ q
         refine ⟨max N1 N2, fun n' hn' => ?_⟩
         rw [e1 n' (by omega)]
         exact e2 n' (by omega))
theorem zcont_ck {o0 : Option zR} {o : Nat → Option zR} {r : zR} (ho : o0 = some r → ∃ N, ∀ n, N ≤ n → o n = some r) (h : zH) (rr : Option Nat) (ci : Nat) (q : zck h rr ci o0 = some r) : ∃ N, ∀ n, N ≤ n → zck h rr ci (o n) = some r := by
  unfold zck at q ⊢
  rcases rr with _ | _ | p
  · cases q
  · cases q
  · dsimp only at q ⊢
    cases hc : h[p]? with
    | none => rw [hc] at q; cases q
    | some c =>
      rw [hc] at q
      exact zcont_if ho (fun q => by cases q) q
theorem zcont_X (R : Nat → Nat → Nat → zL → List zV → zH → Option zR) (R0 : Nat → Nat → zL → List zV → zH → Option zR) (hR : ∀ m pc L st h r, R0 m pc L st h = some r → ∃ N, ∀ n, N ≤ n → R n m pc L st h = some r)
    (x : List Nat) (L : zL) (st : List zV) (h : zH) (k0 : zL → List zV → zH → Option zR) (k : Nat → zL → List zV → zH → Option zR) (r : zR) (hk : ∀ L' st' h', k0 L' st' h' = some r → ∃ N, ∀ n, N ≤ n → k n L' st' h' = some r)
    (q : zX R0 x L st h k0 = some r) : ∃ N, ∀ n, N ≤ n → zX (R n) x L st h (k n) = some r := by
  rcases x with _ | ⟨m, _ | ⟨n, _ | ⟨t, _ | ⟨mx, _ | ⟨t2, _ | ⟨t3, x⟩⟩⟩⟩⟩⟩
  · cases q
  · cases q
  · cases q
  · cases q
  · exact zcont_if (zcont_Y (fun r1 q1 => hR _ _ _ _ _ _ q1) t L _ k0 k r hk) (fun q => by cases q) q
  · exact zcont_if (zcont_ck (zcont_Y (fun r1 q1 => hR _ _ _ _ _ _ q1) t L _ k0 k r hk) h _ _) (fun q => by cases q) q
  · cases q
theorem zcont_lin {h0 : zH} {F : (zL → List zV → zH → Option zR) → Option zR} (hF : zlin h0 F) {k0 : zL → List zV → zH → Option zR} {k : Nat → zL → List zV → zH → Option zR} {r : zR} (hk : ∀ L' st' h', k0 L' st' h' = some r → ∃ N, ∀ n, N ≤ n → k n L' st' h' = some r) (q : F k0 = some r) : ∃ N, ∀ n, N ≤ n → F (k n) = some r := by
  rcases hF with hF | ⟨L', st', h', -, hF⟩
  · rw [hF] at q; cases q
  · rw [hF] at q
    obtain ⟨N, e⟩ := hk _ _ _ q
    exact ⟨N, fun n hn => by rw [hF]; exact e n hn⟩
theorem zcont_I (xs : List Int) (R : Nat → Nat → Nat → zL → List zV → zH → Option zR) (R0 : Nat → Nat → zL → List zV → zH → Option zR) (hR : ∀ m pc L st h r, R0 m pc L st h = some r → ∃ N, ∀ n, N ≤ n → R n m pc L st h = some r)
    (m : Nat) (I : Instr) (x : List Nat) (c : Int) (L : zL) (st : List zV) (h : zH) (k0 : zL → List zV → zH → Option zR) (k : Nat → zL → List zV → zH → Option zR) (r : zR) (hk : ∀ L' st' h', k0 L' st' h' = some r → ∃ N, ∀ n, N ≤ n → k n L' st' h' = some r)
    (q : zI xs R0 m I x c L st h k0 = some r) : ∃ N, ∀ n, N ≤ n → zI xs (R n) m I x c L st h (k n) = some r := by
  have hJ : ∀ (L : zL) (st : List zV) (h : zH), zJ (R0 m) x L st h = some r → ∃ N, ∀ n, N ≤ n → zJ (R n m) x L st h = some r := fun L st h => zcont_J (fun _ _ => none) R R0 hR m x L st h r
  have hX := fun (L : zL) (st : List zV) (h : zH) => zcont_X R R0 hR x L st h k0 k r hk
  obtain ⟨J, hJ0⟩ : ∃ J, J = I := ⟨I, rfl⟩
  cases I
  case ifCond cnd off =>
    cases cnd <;> rcases st with _ | ⟨a | a | a, st⟩ <;> first
      | (cases q; done)
      | exact zcont_if (hJ _ _ _) (hk _ _ _) q
  case if_icmp cnd off =>
    cases cnd <;> rcases st with _ | ⟨a | a | a, _ | ⟨b | b | b, st⟩⟩ <;> first
      | (cases q; done)
      | exact zcont_if (hJ _ _ _) (hk _ _ _) q
  case ifnull off =>
    rcases st with _ | ⟨a | a | (_ | a), st⟩ <;> first | (cases q; done) | exact hJ _ _ _ q | exact hk _ _ _ q
  case ifnonnull off =>
    rcases st with _ | ⟨a | a | (_ | a), st⟩ <;> first | (cases q; done) | exact hJ _ _ _ q | exact hk _ _ _ q
  case tableswitch d lo hi offs =>
    rcases x with _ | ⟨n, _ | ⟨d2, x⟩⟩ <;> rcases st with _ | ⟨a | a | a, st⟩ <;> first | (cases q; done) | skip
    simp only [zI] at q ⊢
    split at q
    next hc => simp only [hc, if_true]; exact hR _ _ _ _ _ _ q
    next hc =>
      simp only [hc, if_false]
      cases ht : (x.drop n)[(zw a - lo).toNat]? with
      | none => rw [ht] at q; cases q
      | some t => rw [ht] at q; exact hR _ _ _ _ _ _ q
  case ireturn => exact ⟨0, fun _ _ => q⟩
  case lreturn => exact ⟨0, fun _ _ => q⟩
  case areturn => exact ⟨0, fun _ _ => q⟩
  case return_ => exact ⟨0, fun _ _ => q⟩
  case invokevirtual i => exact hX _ _ _ q
  case invokestatic i =>
    rcases x with _ | ⟨_ | _ | t, _ | ⟨t2, x⟩⟩
    · exact hX L st h q
    · rcases st with _ | ⟨b | b | b, _ | ⟨a | a | a, st⟩⟩ <;> first | (cases q; done) | exact zcont_if (hk _ _ _) (fun q => by cases q) q
    · exact hX L st h q
    · rcases st with _ | ⟨b | b | b, _ | ⟨a | a | a, st⟩⟩ <;> first | (cases q; done) | exact zcont_if (hk _ _ _) (fun q => by cases q) q
    · exact hX L st h q
    · exact hX L st h q
    · exact hX L st h q
  case invokespecial i =>
    rcases x with _ | ⟨t, x⟩
    · rcases st with _ | ⟨a | a | (_ | a), _ | ⟨b, st⟩⟩ <;> first | (cases q; done) | exact hk _ _ _ q
    · exact hX L st h q
  case nop => exact hJ _ _ _ q
  case goto off => exact hJ _ _ _ q
  all_goals
    have z := zS_lin xs J x c L st h
    rw [hJ0] at z
    exact zcont_lin z hk q
theorem zcont_B (xs : List Int) (R : Nat → Nat → Nat → zL → List zV → zH → Option zR) (R0 : Nat → Nat → zL → List zV → zH → Option zR) (hR : ∀ m pc L st h r, R0 m pc L st h = some r → ∃ N, ∀ n, N ≤ n → R n m pc L st h = some r)
    (m : Nat) (r : zR) : ∀ (b : List zE) (L : zL) (st : List zV) (h : zH), zB xs R0 m b L st h = some r → ∃ N, ∀ n, N ≤ n → zB xs (R n) m b L st h = some r
  | [], _, _, _, q => by cases q
  | (I, x, c) :: t, L, st, h, q => zcont_I xs R R0 hR m I x c L st h (zB xs R0 m t) (fun n => zB xs (R n) m t) r (fun L' st' h' q' => zcont_B xs R R0 hR m r t L' st' h' q') q
theorem zrun_succ (B : Nat → Nat → Option (List zE)) (xs : List Int) : ∀ (n m pc : Nat) (L : zL) (st : List zV) (h : zH) (r : zR), zrun B xs n m pc L st h = some r → zrun B xs (n + 1) m pc L st h = some r := by
  intro n
  induction n with
  | zero => intro m pc L st h r q; cases q
  | succ n ih =>
    intro m pc L st h r q
    rw [zrun] at q ⊢
    cases hb : B m pc with
    | none => rw [hb] at q; cases q
    | some b =>
      rw [hb] at q
      obtain ⟨N, e⟩ := zcont_B xs (fun _ => zrun B xs (n + 1)) (zrun B xs n) (fun m pc L st h r q => ⟨0, fun _ _ => ih m pc L st h r q⟩) m r b L st h q
      exact e N (Nat.le_refl _)
theorem zrun_le (B : Nat → Nat → Option (List zE)) (xs : List Int) {n n' m pc : Nat} {L : zL} {st : List zV} {h : zH} {r : zR} (hn : n ≤ n') (q : zrun B xs n m pc L st h = some r) : zrun B xs n' m pc L st h = some r := by
  induction hn with
  | refl => exact q
  | step _ ih => exact zrun_succ B xs _ _ _ _ _ _ _ ih
theorem zx_iff (B : Nat → Nat → Option (List zE)) (xs : List Int) (m pc : Nat) (L : zL) (st : List zV) (h : zH) (r : zR) : zx B xs m pc L st h = some r ↔ ∃ n, zrun B xs n m pc L st h = some r := by
  unfold zx
  constructor
  · intro q
    split at q
    next hq =>
      obtain ⟨n, e⟩ := Classical.choose_spec hq
      cases q
      exact ⟨n, e⟩
    next => cases q
  · rintro ⟨n, e⟩
    have hq : ∃ r n, zrun B xs n m pc L st h = some r := ⟨r, n, e⟩
    rw [dif_pos hq]
    obtain ⟨n', e'⟩ := Classical.choose_spec hq
    have h1 := zrun_le B xs (Nat.le_max_left n n') e
    have h2 := zrun_le B xs (Nat.le_max_right n n') e'
    rw [h1] at h2
    exact h2.symm
theorem zx_unfold (B : Nat → Nat → Option (List zE)) (xs : List Int) (m pc : Nat) (b : List zE) (hb : B m pc = some b) (L : zL) (st : List zV) (h : zH) : zx B xs m pc L st h = zB xs (zx B xs) m b L st h := by
  have k1 : ∀ r, zx B xs m pc L st h = some r → zB xs (zx B xs) m b L st h = some r := by
    intro r q
    obtain ⟨n, e⟩ := (zx_iff B xs m pc L st h r).mp q
    cases n with
    | zero => cases e
    | succ n =>
      rw [zrun, hb] at e
      obtain ⟨N, e2⟩ := zcont_B xs (fun _ => zx B xs) (zrun B xs n) (fun m pc L st h r q => ⟨0, fun _ _ => (zx_iff B xs m pc L st h r).mpr ⟨n, q⟩⟩) m r b L st h e
      exact e2 N (Nat.le_refl _)
  have k2 : ∀ r, zB xs (zx B xs) m b L st h = some r → zx B xs m pc L st h = some r := by
    intro r q
    obtain ⟨N, e⟩ := zcont_B xs (zrun B xs) (zx B xs) (fun m pc L st h r q => by
      obtain ⟨n, e⟩ := (zx_iff B xs m pc L st h r).mp q
      exact ⟨n, fun n' hn' => zrun_le B xs hn' e⟩) m r b L st h q
    exact (zx_iff B xs m pc L st h r).mpr ⟨N + 1, by rw [zrun, hb]; exact e N (Nat.le_refl _)⟩
  cases h1 : zx B xs m pc L st h with
  | some r => exact (k1 r h1).symm
  | none =>
    cases h2 : zB xs (zx B xs) m b L st h with
    | none => rfl
    | some r => rw [k2 r h2] at h1; cases h1

/-- what is read leaves the heap no smaller -/
theorem zgrow_J (rec : Nat → zL → List zV → zH → Option zR) {r : zR} (hr : ∀ pc L st h, rec pc L st h = some r → zge h r.2) (x : List Nat) (L : zL) (st : List zV) (h : zH) (q : zJ rec x L st h = some r) : zge h r.2 := by
  rcases x with _ | ⟨t, x⟩
  · cases q
  · exact hr _ _ _ _ q
theorem zgrow_if {c : Prop} [Decidable c] {a b : Option zR} {r : zR} {P : Prop} (ha : a = some r → P) (hb : b = some r → P) (q : (if c then a else b) = some r) : P := by
  by_cases hc : c
  · rw [if_pos hc] at q; exact ha q
  · rw [if_neg hc] at q; exact hb q
theorem zgrow_Y {o : Option zR} {h : zH} (ho : ∀ r1, o = some r1 → zge h r1.2) (t : Nat) (L : zL) (st : List zV) (k : zL → List zV → zH → Option zR) (r : zR) (hk : ∀ L' st' h', k L' st' h' = some r → zge h' r.2)
    (q : zY t o L st k = some r) : zge h r.2 := by
  cases h1 : o with
  | none => rcases t with _ | _ | _ | _ | t <;> rw [h1] at q <;> cases q
  | some r1 =>
    have e1 := ho r1 h1
    rw [h1] at q
    obtain ⟨v, h2⟩ := r1
    rcases t with _ | _ | _ | _ | t <;> rcases v with _ | v | v | v <;> simp only [zY, zcv, zci, zcl, zcr] at q <;> first
      | (cases q; done)
      | exact zge_tr e1 (hk _ _ _ q)
theorem zgrow_ck {o : Option zR} {r : zR} {P : Prop} (ho : o = some r → P) (h : zH) (rr : Option Nat) (ci : Nat) (q : zck h rr ci o = some r) : P := by
  unfold zck at q
  rcases rr with _ | _ | p
  · cases q
  · cases q
  · dsimp only at q
    cases hc : h[p]? with
    | none => rw [hc] at q; cases q
    | some c =>
      rw [hc] at q
      exact zgrow_if ho (fun q => by cases q) q
theorem zgrow_X (rec : Nat → Nat → zL → List zV → zH → Option zR) (hr : ∀ m pc L st h r, rec m pc L st h = some r → zge h r.2) (x : List Nat) (L : zL) (st : List zV) (h : zH) (k : zL → List zV → zH → Option zR) (r : zR) (hk : ∀ L' st' h', k L' st' h' = some r → zge h' r.2)
    (q : zX rec x L st h k = some r) : zge h r.2 := by
  rcases x with _ | ⟨m, _ | ⟨n, _ | ⟨t, _ | ⟨mx, _ | ⟨t2, _ | ⟨t3, x⟩⟩⟩⟩⟩⟩
  · cases q
  · cases q
  · cases q
  · cases q
  · exact zgrow_if (zgrow_Y (fun r1 q1 => hr _ _ _ _ _ _ q1) t L _ k r hk) (fun q => by cases q) q
  · exact zgrow_if (zgrow_ck (zgrow_Y (fun r1 q1 => hr _ _ _ _ _ _ q1) t L _ k r hk) h _ _) (fun q => by cases q) q
  · cases q
theorem zgrow_lin {h : zH} {F : (zL → List zV → zH → Option zR) → Option zR} (hF : zlin h F) {k : zL → List zV → zH → Option zR} {r : zR} (hk : ∀ L' st' h', k L' st' h' = some r → zge h' r.2) (q : F k = some r) : zge h r.2 := by
  rcases hF with hF | ⟨L', st', h', hg, hF⟩
  · rw [hF] at q; cases q
  · rw [hF] at q
    exact zge_tr hg (hk _ _ _ q)
theorem zgrow_I (xs : List Int) (rec : Nat → Nat → zL → List zV → zH → Option zR) (hr : ∀ m pc L st h r, rec m pc L st h = some r → zge h r.2)
    (m : Nat) (I : Instr) (x : List Nat) (c : Int) (L : zL) (st : List zV) (h : zH) (k : zL → List zV → zH → Option zR) (r : zR) (hk : ∀ L' st' h', k L' st' h' = some r → zge h' r.2)
    (q : zI xs rec m I x c L st h k = some r) : zge h r.2 := by
  have hJ : ∀ (L : zL) (st : List zV) (h : zH), zJ (rec m) x L st h = some r → zge h r.2 := fun L st h => zgrow_J (rec m) (fun pc L st h q => hr m pc L st h r q) x L st h
  have hX := fun (L : zL) (st : List zV) (h : zH) => zgrow_X rec hr x L st h k r hk
  obtain ⟨J, hJ0⟩ : ∃ J, J = I := ⟨I, rfl⟩
  cases I
  case ifCond cnd off =>
    cases cnd <;> rcases st with _ | ⟨a | a | a, st⟩ <;> first
      | (cases q; done)
      | exact zgrow_if (hJ _ _ _) (hk _ _ _) q
  case if_icmp cnd off =>
    cases cnd <;> rcases st with _ | ⟨a | a | a, _ | ⟨b | b | b, st⟩⟩ <;> first
      | (cases q; done)
      | exact zgrow_if (hJ _ _ _) (hk _ _ _) q
  case ifnull off =>
    rcases st with _ | ⟨a | a | (_ | a), st⟩ <;> first | (cases q; done) | exact hJ _ _ _ q | exact hk _ _ _ q
  case ifnonnull off =>
    rcases st with _ | ⟨a | a | (_ | a), st⟩ <;> first | (cases q; done) | exact hJ _ _ _ q | exact hk _ _ _ q
  case tableswitch d lo hi offs =>
    rcases x with _ | ⟨n, _ | ⟨d2, x⟩⟩ <;> rcases st with _ | ⟨a | a | a, st⟩ <;> first | (cases q; done) | skip
    simp only [zI] at q
    split at q
    next hc => exact hr _ _ _ _ _ _ q
    next hc =>
      cases ht : (x.drop n)[(zw a - lo).toNat]? with
      | none => rw [ht] at q; cases q
      | some t => rw [ht] at q; exact hr _ _ _ _ _ _ q
  case ireturn =>
    rcases x with _ | ⟨_ | _ | t, _ | ⟨t2, x⟩⟩ <;> rcases st with _ | ⟨a | a | a, _ | ⟨b, st⟩⟩ <;> first
      | (cases q; done)
      | (cases q; exact zge_rf _)
      | (exact zgrow_if (fun q => by cases q; exact zge_rf _) (fun q => by cases q) q)
  case lreturn => rcases st with _ | ⟨a | a | a, _ | ⟨b, st⟩⟩ <;> first | (cases q; done) | (cases q; exact zge_rf _)
  case areturn => rcases st with _ | ⟨a | a | a, _ | ⟨b, st⟩⟩ <;> first | (cases q; done) | (cases q; exact zge_rf _)
  case return_ => rcases st with _ | ⟨a, st⟩ <;> first | (cases q; done) | (cases q; exact zge_rf _)
  case invokevirtual i => exact hX _ _ _ q
  case invokestatic i =>
    rcases x with _ | ⟨_ | _ | t, _ | ⟨t2, x⟩⟩
    · exact hX L st h q
    · rcases st with _ | ⟨b | b | b, _ | ⟨a | a | a, st⟩⟩ <;> first | (cases q; done) | exact zgrow_if (hk _ _ _) (fun q => by cases q) q
    · exact hX L st h q
    · rcases st with _ | ⟨b | b | b, _ | ⟨a | a | a, st⟩⟩ <;> first | (cases q; done) | exact zgrow_if (hk _ _ _) (fun q => by cases q) q
    · exact hX L st h q
    · exact hX L st h q
    · exact hX L st h q
  case invokespecial i =>
    rcases x with _ | ⟨t, x⟩
    · rcases st with _ | ⟨a | a | (_ | a), _ | ⟨b, st⟩⟩ <;> first | (cases q; done) | exact hk _ _ _ q
    · exact hX L st h q
  case nop => exact hJ _ _ _ q
  case goto off => exact hJ _ _ _ q
  all_goals
    have z := zS_lin xs J x c L st h
    rw [hJ0] at z
    exact zgrow_lin z hk q
theorem zgrow_B (xs : List Int) (rec : Nat → Nat → zL → List zV → zH → Option zR) (hr : ∀ m pc L st h r, rec m pc L st h = some r → zge h r.2)
    (m : Nat) (r : zR) : ∀ (b : List zE) (L : zL) (st : List zV) (h : zH), zB xs rec m b L st h = some r → zge h r.2
  | [], _, _, _, q => by cases q
  | (I, x, c) :: t, L, st, h, q => zgrow_I xs rec hr m I x c L st h (zB xs rec m t) r (fun L' st' h' q' => zgrow_B xs rec hr m r t L' st' h' q') q
theorem zgrow_run (B : Nat → Nat → Option (List zE)) (xs : List Int) : ∀ (n m pc : Nat) (L : zL) (st : List zV) (h : zH) (r : zR), zrun B xs n m pc L st h = some r → zge h r.2 := by
  intro n
  induction n with
  | zero => intro m pc L st h r q; cases q
  | succ n ih =>
    intro m pc L st h r q
    rw [zrun] at q
    cases hb : B m pc with
    | none => rw [hb] at q; cases q
    | some b =>
      rw [hb] at q
      exact zgrow_B xs _ ih m r b L st h q
end
section
/-! ===== whole numbers and machine numbers ===== -/
theorem zw_toInt (a : Int) : (Int32.ofInt a).toInt = zw a := by
  rw [Int32.toInt_ofInt, Int.bmod_def]
  unfold zw
  simp only [Int32.size]
  split <;> omega
theorem zwl_toInt (a : Int) : (Int64.ofInt a).toInt = zwl a := by
  rw [Int64.toInt_ofInt, Int.bmod_def]
  unfold zwl
  simp only [Int64.size]
  split <;> omega
theorem zw_of (a : Int) : Int32.ofInt (zw a) = Int32.ofInt a := by rw [← zw_toInt, Int32.ofInt_toInt]
theorem zwl_of (a : Int) : Int64.ofInt (zwl a) = Int64.ofInt a := by rw [← zwl_toInt, Int64.ofInt_toInt]
theorem zw_lo (a : Int) : -2147483648 ≤ zw a := by unfold zw; omega
theorem zw_hi (a : Int) : zw a ≤ 2147483647 := by unfold zw; omega
theorem zw_id {a : Int} (h1 : -2147483648 ≤ a) (h2 : a ≤ 2147483647) : zw a = a := by unfold zw; omega
theorem zwl_lo (a : Int) : -9223372036854775808 ≤ zwl a := by unfold zwl; omega
theorem zwl_hi (a : Int) : zwl a ≤ 9223372036854775807 := by unfold zwl; omega
theorem zwl_id {a : Int} (h1 : -9223372036854775808 ≤ a) (h2 : a ≤ 9223372036854775807) : zwl a = a := by unfold zwl; omega
theorem zw_min : Int32.minValue.toInt = -2147483648 := by decide
theorem zw_max : Int32.maxValue.toInt = 2147483647 := by decide
theorem zwl_min : Int64.minValue.toInt = -9223372036854775808 := by decide
theorem zwl_max : Int64.maxValue.toInt = 9223372036854775807 := by decide
theorem zw_div (a b : Int) : Int32.ofInt ((zw a).tdiv (zw b)) = Int32.ofInt a / Int32.ofInt b := by
  rw [Int32.ofInt_tdiv (by rw [zw_min]; exact zw_lo a) (by rw [zw_max]; exact zw_hi a) (by rw [zw_min]; exact zw_lo b) (by rw [zw_max]; exact zw_hi b), zw_of, zw_of]
theorem zwl_div (a b : Int) : Int64.ofInt ((zwl a).tdiv (zwl b)) = Int64.ofInt a / Int64.ofInt b := by
  rw [Int64.ofInt_tdiv (by rw [zwl_min]; exact zwl_lo a) (by rw [zwl_max]; exact zwl_hi a) (by rw [zwl_min]; exact zwl_lo b) (by rw [zwl_max]; exact zwl_hi b), zwl_of, zwl_of]
theorem zw_mod (a b : Int) : Int32.ofInt ((zw a).tmod (zw b)) = Int32.ofInt a - Int32.ofInt a / Int32.ofInt b * Int32.ofInt b := by
  have h : (zw a).tmod (zw b) = zw a - (zw a).tdiv (zw b) * zw b := by rw [Int.tmod_def, Int.mul_comm]
  rw [h, Int32.ofInt_sub, Int32.ofInt_mul, zw_div, zw_of, zw_of]
theorem zwl_mod (a b : Int) : Int64.ofInt ((zwl a).tmod (zwl b)) = Int64.ofInt a - Int64.ofInt a / Int64.ofInt b * Int64.ofInt b := by
  have h : (zwl a).tmod (zwl b) = zwl a - (zwl a).tdiv (zwl b) * zwl b := by rw [Int.tmod_def, Int.mul_comm]
  rw [h, Int64.ofInt_sub, Int64.ofInt_mul, zwl_div, zwl_of, zwl_of]
theorem zw_eq (a b : Int) : Int32.ofInt a = Int32.ofInt b ↔ zw a = zw b := by rw [← Int32.toInt_inj, zw_toInt, zw_toInt]
theorem zw_lt (a b : Int) : Int32.ofInt a < Int32.ofInt b ↔ zw a < zw b := by rw [Int32.lt_iff_toInt_lt, zw_toInt, zw_toInt]
theorem zw_le (a b : Int) : Int32.ofInt a ≤ Int32.ofInt b ↔ zw a ≤ zw b := by rw [Int32.le_iff_toInt_le, zw_toInt, zw_toInt]
theorem zwl_eq (a b : Int) : Int64.ofInt a = Int64.ofInt b ↔ zwl a = zwl b := by rw [← Int64.toInt_inj, zwl_toInt, zwl_toInt]
theorem zwl_lt (a b : Int) : Int64.ofInt a < Int64.ofInt b ↔ zwl a < zwl b := by rw [Int64.lt_iff_toInt_lt, zwl_toInt, zwl_toInt]
theorem zw_eq0 (a : Int) : Int32.ofInt a = 0 ↔ zw a = 0 := by
  have h := zw_eq a 0
  rw [show zw 0 = 0 by rfl] at h
  exact h
theorem zwl_eq0 (a : Int) : Int64.ofInt a = 0 ↔ zwl a = 0 := by
  have h := zwl_eq a 0
  rw [show zwl 0 = 0 by rfl] at h
  exact h
theorem zw_lt0 (a : Int) : Int32.ofInt a < 0 ↔ zw a < 0 := by
  have h := zw_lt a 0
  rw [show zw 0 = 0 by rfl] at h
  exact h
theorem zw_gt0 (a : Int) : 0 < Int32.ofInt a ↔ 0 < zw a := by
  have h := zw_lt 0 a
  rw [show zw 0 = 0 by rfl] at h
  exact h
theorem zw_le0 (a : Int) : Int32.ofInt a ≤ 0 ↔ zw a ≤ 0 := by
  have h := zw_le a 0
  rw [show zw 0 = 0 by rfl] at h
  exact h
theorem zw_ge0 (a : Int) : 0 ≤ Int32.ofInt a ↔ 0 ≤ zw a := by
  have h := zw_le 0 a
  rw [show zw 0 = 0 by rfl] at h
  exact h
theorem zw_i2l (a : Int) : (Int32.ofInt a).toInt64 = Int64.ofInt (zw a) := by
  rw [← zw_of, Int32.toInt64_ofInt (by rw [zw_min]; exact zw_lo a) (by rw [zw_max]; exact zw_hi a)]
theorem zw_l2i (a : Int) : (Int64.ofInt a).toInt32 = Int32.ofInt a := Int64.toInt32_ofInt
theorem zwl_cmp (a b : Int) : lg_cmp (Int64.ofInt a) (Int64.ofInt b) = Int32.ofInt (if zwl a < zwl b then -1 else if zwl a = zwl b then 0 else 1) := by
  unfold lg_cmp
  by_cases h1 : zwl b < zwl a
  · rw [if_pos (show Int64.ofInt b < Int64.ofInt a from (zwl_lt b a).mpr h1), if_neg (by omega), if_neg (by omega)]
    rfl
  · rw [if_neg (show ¬ Int64.ofInt b < Int64.ofInt a from fun h => h1 ((zwl_lt b a).mp h))]
    by_cases h2 : zwl a = zwl b
    · rw [if_pos ((zwl_eq a b).mpr h2), if_neg (by omega), if_pos h2]
      rfl
    · rw [if_neg (fun h => h2 ((zwl_eq a b).mp h)), if_pos (by omega)]
      rfl
theorem zw_clamp (a : Int) : (Int32.ofInt a).toNatClampNeg = (zw a).toNat := by
  show (Int32.ofInt a).toInt.toNat = _
  rw [zw_toInt]
theorem zw_in {a : Int} {n : Nat} (h0 : 0 ≤ zw a) (h : (zw a).toNat < n) : vp_in (Int32.ofInt a) n := by
  unfold vp_in
  rw [zw_lt0, zw_clamp]
  omega
theorem zw_bip {n : Int} (h1 : -128 ≤ n) (h2 : n ≤ 127) : (Int8.ofInt n).toInt32 = Int32.ofInt n := Int8.toInt32_ofInt (by rw [show Int8.minValue.toInt = -128 by decide]; exact h1) (by rw [show Int8.maxValue.toInt = 127 by decide]; exact h2)
theorem zw_sip {n : Int} (h1 : -32768 ≤ n) (h2 : n ≤ 32767) : (Int16.ofInt n).toInt32 = Int32.ofInt n := Int16.toInt32_ofInt (by rw [show Int16.minValue.toInt = -32768 by decide]; exact h1) (by rw [show Int16.maxValue.toInt = 32767 by decide]; exact h2)
end
section
/-! ===== how a state of the reading lies in the machine ===== -/
/-- places to addresses -/
def zcR (ads : List Nat) : zV → Value → Prop
  | .inl x, V => V = .int (Int32.ofInt x)
  | .inr (.inl x), V => V = .long (Int64.ofInt x)
  | .inr (.inr none), V => V = .null
  | .inr (.inr (some p)), V => ∃ a, ads[p]? = some a ∧ V = .ref a
def zpre (ads ads' : List Nat) : Prop := ∀ (i a : Nat), ads[i]? = some a → ads'[i]? = some a
theorem zpre_rf (ads : List Nat) : zpre ads ads := fun _ _ h => h
theorem zpre_tr {a b c : List Nat} (h1 : zpre a b) (h2 : zpre b c) : zpre a c := fun i x h => h2 i x (h1 i x h)
theorem zpre_app (a b : List Nat) : zpre a (a ++ b) := fun i x h => by
  rw [List.getElem?_append_left (List.getElem?_eq_some_iff.mp h).1]; exact h
theorem zcR_pre {ads ads' : List Nat} (hp : zpre ads ads') : ∀ {v : zV} {V : Value}, zcR ads v V → zcR ads' v V
  | .inl _, _, h => h
  | .inr (.inl _), _, h => h
  | .inr (.inr none), _, h => h
  | .inr (.inr (some _)), _, ⟨a, h1, h2⟩ => ⟨a, hp _ _ h1, h2⟩
theorem zcR_cat {ads : List Nat} : ∀ {v : zV} {V : Value}, zcR ads v V → V.category = zcat v
  | .inl _, _, h => by cases h; rfl
  | .inr (.inl _), _, h => by cases h; rfl
  | .inr (.inr none), _, h => by cases h; rfl
  | .inr (.inr (some _)), _, ⟨_, _, h⟩ => by cases h; rfl
def zSt (ads : List Nat) : List zV → List Value → Prop
  | [], [] => True
  | v :: t, V :: T => zcR ads v V ∧ zSt ads t T
  | _, _ => False
theorem zSt_pre {ads ads' : List Nat} (hp : zpre ads ads') : ∀ {t : List zV} {T : List Value}, zSt ads t T → zSt ads' t T
  | [], [], _ => trivial
  | _ :: _, _ :: _, h => ⟨zcR_pre hp h.1, zSt_pre hp h.2⟩
  | [], _ :: _, h => h.elim
  | _ :: _, [], h => h.elim
theorem zSt_len {ads : List Nat} : ∀ {t : List zV} {T : List Value}, zSt ads t T → T.length = t.length
  | [], [], _ => rfl
  | _ :: _, _ :: _, h => by simp [zSt_len h.2]
  | [], _ :: _, h => h.elim
  | _ :: _, [], h => h.elim
theorem zSt_get {ads : List Nat} : ∀ {t : List zV} {T : List Value} {k : Nat} {v : zV}, zSt ads t T → t[k]? = some v → ∃ V, T[k]? = some V ∧ zcR ads v V
  | [], [], k, v, _, h => by simp at h
  | w :: t, W :: T, 0, v, h, q => by
    simp at q
    subst q
    exact ⟨W, by simp, h.1⟩
  | w :: t, W :: T, k + 1, v, h, q => by
    simp at q
    obtain ⟨V, h1, h2⟩ := zSt_get h.2 q
    exact ⟨V, by simpa using h1, h2⟩
  | [], _ :: _, _, _, h, _ => h.elim
  | _ :: _, [], _, _, h, _ => h.elim
theorem zSt_set {ads : List Nat} : ∀ {t : List zV} {T : List Value} (k : Nat) {v : zV} {V : Value}, zSt ads t T → zcR ads v V → zSt ads (t.set k v) (T.set k V)
  | [], [], _, _, _, _, _ => trivial
  | _ :: _, _ :: _, 0, _, _, h, q => ⟨q, h.2⟩
  | _ :: _, _ :: _, k + 1, _, _, h, q => ⟨h.1, zSt_set k h.2 q⟩
  | [], _ :: _, _, _, _, h, _ => h.elim
  | _ :: _, [], _, _, _, h, _ => h.elim
theorem zSt_take {ads : List Nat} : ∀ (n : Nat) {t : List zV} {T : List Value}, zSt ads t T → zSt ads (t.take n) (T.take n) ∧ zSt ads (t.drop n) (T.drop n)
  | 0, t, T, h => ⟨trivial, h⟩
  | n + 1, [], [], _ => ⟨trivial, trivial⟩
  | n + 1, _ :: _, _ :: _, h => ⟨⟨h.1, (zSt_take n h.2).1⟩, (zSt_take n h.2).2⟩
  | n + 1, [], _ :: _, h => h.elim
  | n + 1, _ :: _, [], h => h.elim
theorem zSt_app {ads : List Nat} : ∀ {t : List zV} {T : List Value} {t2 : List zV} {T2 : List Value}, zSt ads t T → zSt ads t2 T2 → zSt ads (t ++ t2) (T ++ T2)
  | [], [], _, _, _, h2 => h2
  | _ :: _, _ :: _, _, _, h, h2 => ⟨h.1, zSt_app h.2 h2⟩
  | [], _ :: _, _, _, h, _ => h.elim
  | _ :: _, [], _, _, h, _ => h.elim
theorem zSt_rev {ads : List Nat} : ∀ {t : List zV} {T : List Value}, zSt ads t T → zSt ads t.reverse T.reverse
  | [], [], _ => trivial
  | _ :: _, _ :: _, h => by
    rw [List.reverse_cons, List.reverse_cons]
    exact zSt_app (zSt_rev h.2) ⟨h.1, trivial⟩
  | [], _ :: _, h => h.elim
  | _ :: _, [], h => h.elim
theorem zSt_cat {ads : List Nat} : ∀ {t : List zV} {T : List Value}, zSt ads t T → (T.map fun v => v.category).sum = zcs t
  | [], [], _ => rfl
  | v :: t, V :: T, h => by
    have h1 := zSt_cat h.2
    have h2 := zcR_cat h.1
    simp only [List.map_cons, List.sum_cons, zcs]
    omega
  | [], _ :: _, h => h.elim
  | _ :: _, [], h => h.elim
/-- the locals -/
def zLo (ads : List Nat) (nL : Nat) (L : zL) (ls : Array Slot) : Prop := ls.size = nL ∧ lv_wf ls ∧ ∀ (i : Nat) (v : zV), L[i]? = some (some v) → ∃ V, ls[i]? = some (.val V) ∧ zcR ads v V
theorem zLo_pre {ads ads' : List Nat} (hp : zpre ads ads') {nL : Nat} {L : zL} {ls : Array Slot} (h : zLo ads nL L ls) : zLo ads' nL L ls := ⟨h.1, h.2.1, fun i v q => by
  obtain ⟨V, h1, h2⟩ := h.2.2 i v q
  exact ⟨V, h1, zcR_pre hp h2⟩⟩
theorem zLo_ld {ads : List Nat} {nL : Nat} {L : zL} {ls : Array Slot} (h : zLo ads nL L ls) {i : Nat} {v : zV} (q : zld L i = some v) : ∃ V, ls[i]? = some (.val V) ∧ zcR ads v V := by
  unfold zld at q
  split at q
  next w hw => cases q; exact h.2.2 i v hw
  next => cases q
theorem zkeep_get : ∀ (m : List Nat) (L : zL) (i : Nat) (v : zV), (zkeep m L)[i]? = some (some v) → L[i]? = some (some v)
  | [], L, i, v, h => by simp [zkeep] at h
  | a :: m, [], i, v, h => by simp [zkeep] at h
  | 0 :: m, w :: t, 0, v, h => by simp [zkeep] at h
  | 0 :: m, w :: t, i + 1, v, h => by simp [zkeep] at h ⊢; exact zkeep_get m t i v h
  | (_ + 1) :: m, w :: t, 0, v, h => by simpa [zkeep] using h
  | (_ + 1) :: m, w :: t, i + 1, v, h => by simp [zkeep] at h ⊢; exact zkeep_get m t i v h
theorem zLo_keep {ads : List Nat} {nL : Nat} {L : zL} {ls : Array Slot} (h : zLo ads nL L ls) (m : List Nat) : zLo ads nL (zkeep m L) ls := ⟨h.1, h.2.1, fun i v q => h.2.2 i v (zkeep_get m L i v q)⟩
/-- what stands in L after a store, stood there before or is the stored one -/
theorem zset1_get : ∀ (L : zL) (i : Nat) (w : Option zV) (j : Nat) (v : zV), (zset1 L i w)[j]? = some (some v) → (j = i ∧ w = some v) ∨ (j ≠ i ∧ L[j]? = some (some v) ∧ ¬ (j + 1 = i ∧ zcat v = 2))
  | [], 0, w, 0, v, h => by simp [zset1] at h; exact Or.inl ⟨rfl, h⟩
  | [], 0, w, j + 1, v, h => by simp [zset1] at h
  | [], i + 1, w, 0, v, h => by simp [zset1] at h
  | [], i + 1, w, j + 1, v, h => by
    simp [zset1] at h
    rcases zset1_get [] i w j v h with ⟨h1, h2⟩ | ⟨h1, h2, h3⟩
    · exact Or.inl ⟨by omega, h2⟩
    · simp at h2
  | a :: t, 0, w, 0, v, h => by simp [zset1] at h; exact Or.inl ⟨rfl, h⟩
  | a :: t, 0, w, j + 1, v, h => by simp [zset1] at h; exact Or.inr ⟨by omega, by simpa using h, by omega⟩
  | a :: t, i + 1, w, 0, v, h => by
    have key : ∀ b : Option zV, b = some v → b = a → (0 = i + 1 ∧ w = some v) ∨ (0 ≠ i + 1 ∧ (a :: t)[0]? = some (some v) ∧ ¬ (0 + 1 = i + 1 ∧ zcat v = 2)) ∨ (i = 0 ∧ zcat v = 2) := by
      intro b h1 h2
      subst h2
      by_cases hi : i = 0 ∧ zcat v = 2
      · exact Or.inr (Or.inr hi)
      · refine Or.inr (Or.inl ⟨by omega, by simp [h1], ?_⟩)
        intro q; exact hi ⟨by omega, q.2⟩
    rcases a with _ | a | a | a
    · simp [zset1] at h
    · simp [zset1] at h
      rcases key _ (by simp [h]) rfl with q | q | ⟨q1, q2⟩
      · exact Or.inl q
      · exact Or.inr q
      · subst h; simp [zcat] at q2
    · rcases i with _ | i
      · simp [zset1] at h
      · simp [zset1] at h
        rcases key _ (by simp [h]) rfl with q | q | ⟨q1, q2⟩
        · exact Or.inl q
        · exact Or.inr q
        · omega
    · simp [zset1] at h
      rcases key _ (by simp [h]) rfl with q | q | ⟨q1, q2⟩
      · exact Or.inl q
      · exact Or.inr q
      · subst h; simp [zcat] at q2
  | a :: t, i + 1, w, j + 1, v, h => by
    have h' : (zset1 t i w)[j]? = some (some v) := by
      rcases a with _ | a | a | a
      · simpa [zset1] using h
      · simpa [zset1] using h
      · rcases i with _ | i <;> simpa [zset1] using h
      · simpa [zset1] using h
    rcases zset1_get t i w j v h' with ⟨h1, h2⟩ | ⟨h1, h2, h3⟩
    · exact Or.inl ⟨by omega, h2⟩
    · exact Or.inr ⟨by omega, by simpa using h2, by omega⟩
theorem zset2_get : ∀ (L : zL) (i : Nat) (w : Option zV) (j : Nat) (v : zV), (zset2 L i w)[j]? = some (some v) → (j = i ∧ w = some v) ∨ (j ≠ i ∧ j ≠ i + 1 ∧ L[j]? = some (some v) ∧ ¬ (j + 1 = i ∧ zcat v = 2))
  | [], 0, w, 0, v, h => by simp [zset2] at h; exact Or.inl ⟨rfl, h⟩
  | [], 0, w, 1, v, h => by simp [zset2] at h
  | [], 0, w, j + 2, v, h => by simp [zset2] at h
  | [], i + 1, w, 0, v, h => by simp [zset2] at h
  | [], i + 1, w, j + 1, v, h => by
    simp [zset2] at h
    rcases zset2_get [] i w j v h with ⟨h1, h2⟩ | ⟨h1, h2, h3, h4⟩
    · exact Or.inl ⟨by omega, h2⟩
    · simp at h3
  | [a], 0, w, 0, v, h => by simp [zset2] at h; exact Or.inl ⟨rfl, h⟩
  | [a], 0, w, 1, v, h => by simp [zset2] at h
  | [a], 0, w, j + 2, v, h => by simp [zset2] at h
  | a :: b :: t, 0, w, 0, v, h => by simp [zset2] at h; exact Or.inl ⟨rfl, h⟩
  | a :: b :: t, 0, w, 1, v, h => by simp [zset2] at h
  | a :: b :: t, 0, w, j + 2, v, h => by simp [zset2] at h; exact Or.inr ⟨by omega, by omega, by simpa using h, by omega⟩
  | a :: t, i + 1, w, 0, v, h => by
    have key : ∀ b : Option zV, b = some v → b = a → (0 = i + 1 ∧ w = some v) ∨ (0 ≠ i + 1 ∧ 0 ≠ i + 1 + 1 ∧ (a :: t)[0]? = some (some v) ∧ ¬ (0 + 1 = i + 1 ∧ zcat v = 2)) ∨ (i = 0 ∧ zcat v = 2) := by
      intro b h1 h2
      subst h2
      by_cases hi : i = 0 ∧ zcat v = 2
      · exact Or.inr (Or.inr hi)
      · refine Or.inr (Or.inl ⟨by omega, by omega, by simp [h1], ?_⟩)
        intro q; exact hi ⟨by omega, q.2⟩
    have fin : zcat v ≠ 2 ∨ i ≠ 0 → a = some v → (0 = i + 1 ∧ w = some v) ∨ (0 ≠ i + 1 ∧ 0 ≠ i + 1 + 1 ∧ (a :: t)[0]? = some (some v) ∧ ¬ (0 + 1 = i + 1 ∧ zcat v = 2)) := by
      intro hn ha
      rcases key _ ha rfl with q | q | ⟨q1, q2⟩
      · exact Or.inl q
      · exact Or.inr q
      · omega
    rcases a with _ | a | a | a
    · rcases t with _ | ⟨b, t⟩ <;> simp [zset2] at h
    · have ha : some (Sum.inl a) = some v := by rcases t with _ | ⟨b, t⟩ <;> simpa [zset2] using h
      exact fin (Or.inl (by cases ha; simp [zcat])) ha
    · rcases i with _ | i
      · rcases t with _ | ⟨b, t⟩ <;> simp [zset2] at h
      · have ha : some (Sum.inr (Sum.inl a)) = some v := by rcases t with _ | ⟨b, t⟩ <;> simpa [zset2] using h
        exact fin (Or.inr (by omega)) ha
    · have ha : some (Sum.inr (Sum.inr a)) = some v := by rcases t with _ | ⟨b, t⟩ <;> simpa [zset2] using h
      exact fin (Or.inl (by cases ha; simp [zcat])) ha
  | a :: t, i + 1, w, j + 1, v, h => by
    have h' : (zset2 t i w)[j]? = some (some v) := by
      rcases a with _ | a | a | a
      · rcases t with _ | ⟨b, t⟩ <;> simpa [zset2] using h
      · rcases t with _ | ⟨b, t⟩ <;> simpa [zset2] using h
      · rcases i with _ | i <;> rcases t with _ | ⟨b, t⟩ <;> simpa [zset2] using h
      · rcases t with _ | ⟨b, t⟩ <;> simpa [zset2] using h
    rcases zset2_get t i w j v h' with ⟨h1, h2⟩ | ⟨h1, h2, h3, h4⟩
    · exact Or.inl ⟨by omega, h2⟩
    · exact Or.inr ⟨by omega, by omega, by simpa using h3, by omega⟩
theorem zLo_lv {ads : List Nat} {nL : Nat} {L : zL} {ls : Array Slot} (h : zLo ads nL L ls) : ∃ lv : List (Nat × Value), lv_has ls nL lv ∧ ∀ (i : Nat) (v : zV), L[i]? = some (some v) → ∃ V, (i, V) ∈ lv ∧ zcR ads v V := by
  have key : ∀ (L : zL) (k : Nat), (∀ (i : Nat) (v : zV), L[i]? = some (some v) → ∃ V, ls[k + i]? = some (.val V) ∧ zcR ads v V) → ∃ lv : List (Nat × Value), (∀ q ∈ lv, ls[q.1]? = some (.val q.2)) ∧ ∀ (i : Nat) (v : zV), L[i]? = some (some v) → ∃ V, (k + i, V) ∈ lv ∧ zcR ads v V := by
    intro L
    induction L with
    | nil => exact fun k _ => ⟨[], fun q hq => by simp at hq, fun i v hv => by simp at hv⟩
    | cons a t ih =>
      intro k hk
      obtain ⟨lv, h1, h2⟩ := ih (k + 1) (fun i v hv => by
        obtain ⟨V, e1, e2⟩ := hk (i + 1) v (by simpa using hv)
        exact ⟨V, by rw [show k + 1 + i = k + (i + 1) by omega]; exact e1, e2⟩)
      cases a with
      | none =>
        refine ⟨lv, h1, fun i v hv => ?_⟩
        cases i with
        | zero => simp at hv
        | succ i =>
          obtain ⟨V, e1, e2⟩ := h2 i v (by simpa using hv)
          exact ⟨V, by rw [show k + (i + 1) = k + 1 + i by omega]; exact e1, e2⟩
      | some w =>
        obtain ⟨W, e1, e2⟩ := hk 0 w (by simp)
        refine ⟨(k, W) :: lv, fun q hq => ?_, fun i v hv => ?_⟩
        · rcases List.mem_cons.mp hq with rfl | hq
          · simpa using e1
          · exact h1 q hq
        · cases i with
          | zero =>
            simp at hv
            subst hv
            exact ⟨W, by simp, e2⟩
          | succ i =>
            obtain ⟨V, e3, e4⟩ := h2 i v (by simpa using hv)
            exact ⟨V, by rw [show k + (i + 1) = k + 1 + i by omega]; exact List.mem_cons_of_mem _ e3, e4⟩
  obtain ⟨lv, h1, h2⟩ := key L 0 (fun i v hv => by
    obtain ⟨V, e1, e2⟩ := h.2.2 i v hv
    exact ⟨V, by rw [Nat.zero_add]; exact e1, e2⟩)
  exact ⟨lv, ⟨h.1, h.2.1, h1⟩, fun i v hv => by
    obtain ⟨V, e1, e2⟩ := h2 i v hv
    exact ⟨V, by rw [Nat.zero_add] at e1; exact e1, e2⟩⟩
theorem zLo_s1 {ads : List Nat} {nL i : Nat} {L : zL} {ls' : Array Slot} {lv : List (Nat × Value)} {v0 : zV} {V0 : Value} (hc : ∀ (i : Nat) (v : zV), L[i]? = some (some v) → ∃ V, (i, V) ∈ lv ∧ zcR ads v V) (h0 : zcR ads v0 V0)
    (h : lv_has ls' nL ((i, V0) :: lv.filter (fun q => !(q.1 == i) && !(q.1 + 1 == i && q.2.category == 2)))) : zLo ads nL (zset1 L i (some v0)) ls' := by
  refine ⟨h.1, h.2.1, fun j v hv => ?_⟩
  rcases zset1_get L i _ j v hv with ⟨rfl, e⟩ | ⟨h1, h2, h3⟩
  · cases e
    exact ⟨V0, h.2.2 (j, V0) List.mem_cons_self, h0⟩
  · obtain ⟨V, e1, e2⟩ := hc j v h2
    refine ⟨V, h.2.2 (j, V) (List.mem_cons_of_mem _ (List.mem_filter.mpr ⟨e1, ?_⟩)), e2⟩
    have hcat := zcR_cat e2
    simp only [Bool.and_eq_true, Bool.not_eq_true', beq_eq_false_iff_ne, ne_eq, Bool.and_eq_false_iff]
    refine ⟨h1, ?_⟩
    by_cases q : j + 1 = i
    · right; intro z; exact h3 ⟨q, by rw [← hcat]; exact z⟩
    · left; exact q
theorem zLo_s2 {ads : List Nat} {nL i : Nat} {L : zL} {ls' : Array Slot} {lv : List (Nat × Value)} {v0 : zV} {V0 : Value} (hc : ∀ (i : Nat) (v : zV), L[i]? = some (some v) → ∃ V, (i, V) ∈ lv ∧ zcR ads v V) (h0 : zcR ads v0 V0)
    (h : lv_has ls' nL ((i, V0) :: lv.filter (fun q => !(q.1 == i) && (!(q.1 == i + 1) && !(q.1 + 1 == i && q.2.category == 2))))) : zLo ads nL (zset2 L i (some v0)) ls' := by
  refine ⟨h.1, h.2.1, fun j v hv => ?_⟩
  rcases zset2_get L i _ j v hv with ⟨rfl, e⟩ | ⟨h1, h2, h3, h4⟩
  · cases e
    exact ⟨V0, h.2.2 (j, V0) List.mem_cons_self, h0⟩
  · obtain ⟨V, e1, e2⟩ := hc j v h3
    refine ⟨V, h.2.2 (j, V) (List.mem_cons_of_mem _ (List.mem_filter.mpr ⟨e1, ?_⟩)), e2⟩
    have hcat := zcR_cat e2
    simp only [Bool.and_eq_true, Bool.not_eq_true', beq_eq_false_iff_ne, ne_eq, Bool.and_eq_false_iff]
    refine ⟨h1, h2, ?_⟩
    by_cases q : j + 1 = i
    · right; intro z; exact h4 ⟨q, by rw [← hcat]; exact z⟩
    · left; exact q
/-- stacks by their top -/
theorem zSt_i {ads : List Nat} {x : Int} {t : List zV} {T : List Value} (h : zSt ads (.inl x :: t) T) : ∃ T', T = .int (Int32.ofInt x) :: T' ∧ zSt ads t T' := by
  rcases T with _ | ⟨V, T⟩
  · exact h.elim
  · obtain ⟨h1, h2⟩ := h
    cases h1
    exact ⟨T, rfl, h2⟩
theorem zSt_l {ads : List Nat} {x : Int} {t : List zV} {T : List Value} (h : zSt ads (.inr (.inl x) :: t) T) : ∃ T', T = .long (Int64.ofInt x) :: T' ∧ zSt ads t T' := by
  rcases T with _ | ⟨V, T⟩
  · exact h.elim
  · obtain ⟨h1, h2⟩ := h
    cases h1
    exact ⟨T, rfl, h2⟩
theorem zSt_r {ads : List Nat} {x : Option Nat} {t : List zV} {T : List Value} (h : zSt ads (.inr (.inr x) :: t) T) : ∃ V T', T = V :: T' ∧ zcR ads (.inr (.inr x)) V ∧ zSt ads t T' := by
  rcases T with _ | ⟨V, T⟩
  · exact h.elim
  · exact ⟨V, T, rfl, h.1, h.2⟩
/-- cells -/
def zCe (cl : List vw_C) (ads : List Nat) (tys : List (ClassId × FieldType)) (c : Nat × List zV) (e : va_E) : Prop :=
  (c.1 < 100 ∧ ∃ fs, e = .inr (c.1, fs) ∧ zSt ads c.2 fs) ∨
  (c.1 = 100 ∧ ∃ (cA : ClassId) (f : Nat → Int32), e = .inl (cA, c.2.length, .inl f) ∧ (cA, FieldType.int) ∈ tys ∧ ∀ (j : Nat) (v : zV), c.2[j]? = some v → ∃ x, v = .inl x ∧ f j = Int32.ofInt x) ∨
  (c.1 = 101 ∧ ∃ (cA : ClassId) (f : Nat → Int64), e = .inl (cA, c.2.length, .inr (.inl f)) ∧ (cA, FieldType.long) ∈ tys ∧ ∀ (j : Nat) (v : zV), c.2[j]? = some v → ∃ x, v = .inr (.inl x) ∧ f j = Int64.ofInt x) ∨
  (102 ≤ c.1 ∧ ∃ (cA : ClassId) (f : Nat → Option Nat) (r : vw_C), e = .inl (cA, c.2.length, .inr (.inr (.inr (.inr f)))) ∧ cl[c.1 - 102]? = some r ∧ (cA, FieldType.object r.1) ∈ tys ∧ ∀ (j : Nat) (v : zV), c.2[j]? = some v → ∃ x, v = .inr (.inr x) ∧ zcR ads (.inr (.inr x)) (va_rf (f j)))
theorem zCe_mono {cl : List vw_C} {ads ads' : List Nat} {tys tys' : List (ClassId × FieldType)} (hp : zpre ads ads') (ht : ∀ q ∈ tys, q ∈ tys') {c : Nat × List zV} {e : va_E} (h : zCe cl ads tys c e) : zCe cl ads' tys' c e := by
  rcases h with ⟨h1, fs, h2, h3⟩ | ⟨h1, cA, f, h2, h3, h4⟩ | ⟨h1, cA, f, h2, h3, h4⟩ | ⟨h1, cA, f, r, h2, h3, h4, h5⟩
  · exact Or.inl ⟨h1, fs, h2, zSt_pre hp h3⟩
  · exact Or.inr (Or.inl ⟨h1, cA, f, h2, ht _ h3, h4⟩)
  · exact Or.inr (Or.inr (Or.inl ⟨h1, cA, f, h2, ht _ h3, h4⟩))
  · refine Or.inr (Or.inr (Or.inr ⟨h1, cA, f, r, h2, h3, ht _ h4, fun j v hv => ?_⟩))
    obtain ⟨x, e1, e2⟩ := h5 j v hv
    exact ⟨x, e1, zcR_pre hp e2⟩
def zRep (cl : List vw_C) (ads : List Nat) (tys : List (ClassId × FieldType)) (ws : va_W) (h : zH) : Prop :=
  ws.length = h.length ∧ ads.length = h.length + 1 ∧ ∀ (k : Nat) (c : Nat × List zV), h[k]? = some c → ∃ a e, ads[k + 1]? = some a ∧ ws[k]? = some (a, e) ∧ zCe cl ads tys c e
theorem zRep_set {cl : List vw_C} {ads : List Nat} {tys : List (ClassId × FieldType)} {ws : va_W} {h : zH} (hR : zRep cl ads tys ws h) {p a : Nat} {c' : Nat × List zV} {e' : va_E} (ha : ads[p + 1]? = some a) (hc : zCe cl ads tys c' e') : zRep cl ads tys (ws.set p (a, e')) (h.set p c') := by
  obtain ⟨h1, h2, h3⟩ := hR
  refine ⟨by simp [h1], by simp [h2], fun k c hk => ?_⟩
  by_cases hkp : p = k
  · subst hkp
    have hl : p < h.length := by
      have := (List.getElem?_eq_some_iff.mp hk).1
      simpa using this
    rw [List.getElem?_set_self hl] at hk
    cases hk
    exact ⟨a, e', ha, by rw [List.getElem?_set_self (by omega)], hc⟩
  · rw [List.getElem?_set_ne hkp] at hk
    obtain ⟨a1, e1, q1, q2, q3⟩ := h3 k c hk
    exact ⟨a1, e1, q1, by rw [List.getElem?_set_ne hkp]; exact q2, q3⟩
theorem zRep_app {cl : List vw_C} {ads : List Nat} {tys tys' : List (ClassId × FieldType)} {ws : va_W} {h : zH} (hR : zRep cl ads tys ws h) (ht : ∀ q ∈ tys, q ∈ tys') {a : Nat} {c' : Nat × List zV} {e' : va_E} (hc : zCe cl ads tys' c' e') : zRep cl (ads ++ [a]) tys' (ws ++ [(a, e')]) (h ++ [c']) := by
  obtain ⟨h1, h2, h3⟩ := hR
  refine ⟨by simp [h1], by simp [h2], fun k c hk => ?_⟩
  by_cases hl : k < h.length
  · rw [List.getElem?_append_left hl] at hk
    obtain ⟨a1, e1, q1, q2, q3⟩ := h3 k c hk
    exact ⟨a1, e1, zpre_app _ _ _ _ q1, by rw [List.getElem?_append_left (by omega)]; exact q2, zCe_mono (zpre_app _ _) ht q3⟩
  · rw [List.getElem?_append_right (by omega)] at hk
    have hz : k - h.length < 1 := (List.getElem?_eq_some_iff.mp hk).1
    have hk0 : k = h.length := by omega
    subst hk0
    simp at hk
    subst hk
    refine ⟨a, e', ?_, ?_, zCe_mono (zpre_app _ _) (fun _ q => q) hc⟩
    · rw [List.getElem?_append_right (by omega), h2]; simp
    · rw [List.getElem?_append_right (by omega), h1]; simp
theorem zty_mem {tys : List (ClassId × FieldType)} {q : ClassId × FieldType} (h : q ∈ tys) : ∃ t0 : Nat, tys[t0]? = some q := List.getElem?_of_mem h
end
section
/-! ===== one step of the reading is a step of the machine ===== -/
def zlen : Instr → Nat
  | .bipush _ => 2
  | .sipush _ => 3
  | .ldc _ => 2
  | .ldc_w _ => 3
  | .ldc2_w _ => 3
  | .iload _ => 2
  | .lload _ => 2
  | .aload _ => 2
  | .istore _ => 2
  | .lstore _ => 2
  | .astore _ => 2
  | .iinc _ _ => 3
  | .getfield _ => 3
  | .putfield _ => 3
  | .new _ => 3
  | .anewarray _ => 3
  | .newarray _ => 2
  | .goto _ => 3
  | .ifCond _ _ => 3
  | .if_icmp _ _ => 3
  | .ifnull _ => 3
  | .ifnonnull _ => 3
  | .invokevirtual _ => 3
  | .invokestatic _ => 3
  | .invokespecial _ => 3
  | _ => 1
def zxf (xs : List Int) : Nat → Int32 := fun j => Int32.ofInt (xs.getD j 0)
/-- what the tables say of a field's use, of a class, of a constant -/
def zFl (cl : List vw_C) (Ts : List Cond) (own : String) (idx ci j : Nat) : Prop := ∃ (T : u_T) (N : Nat), cl[ci]? = some (own, T, N) ∧ j < N ∧ (T j).1 = own ∧ Cond.fieldLink own idx own (T j).2.1 (T j).2.2.1 ∈ Ts
def zKd (k : Nat) (ty : FieldType) : Prop := match k with
  | 0 => ty = .int
  | 1 => ty = .long
  | 2 => (∃ n, ty = .object n) ∨ ∃ t, ty = .array t
  | 3 => ty = .boolean
  | _ => False
def zPf (cl : List vw_C) (Ts : List Cond) (own : String) (ctor : Bool) (idx ci j k : Nat) : Prop := ∃ (T : u_T) (N : Nat), cl[ci]? = some (own, T, N) ∧ j < N ∧ (T j).1 = own ∧ Cond.fieldLink own idx own (T j).2.1 (T j).2.2.1 ∈ Ts ∧ (∃ ty, parseFieldDescriptor (T j).2.2.1 = some ty ∧ zKd k ty) ∧ ((T j).2.2.2 = false ∨ ctor = true)
def zCl (cl : List vw_C) (Ts : List Cond) : Prop := ∀ (ci : Nat) (C : String) (T : u_T) (N : Nat), cl[ci]? = some (C, T, N) → (∀ w ∈ u_ws C T N, w ∈ Ts) ∧ (∃ ty : Nat → FieldType, ∀ k, k < N → parseFieldDescriptor (T k).2.2.1 = some (ty k)) ∧ (∀ a, a < N → ∀ b, b < N → a ≠ b → (T a).2.1 ≠ (T b).2.1) ∧ Cond.instantiable C N ∈ Ts ∧ Cond.initialized C ∈ Ts ∧ ci < 100
def zNw (cl : List vw_C) (Ts : List Cond) (own : String) (idx ci : Nat) (ks : List Nat) : Prop := ∃ (C : String) (T : u_T) (N : Nat), cl[ci]? = some (C, T, N) ∧ ks.length = N ∧ Cond.classLink own idx C ∈ Ts ∧ ∀ (j k : Nat), ks[j]? = some k → ∃ ty, parseFieldDescriptor (T j).2.2.1 = some ty ∧ ((k = 0 ∧ (ty = .int ∨ ty = .boolean)) ∨ (k = 1 ∧ ty = .long) ∨ (k = 2 ∧ ((∃ n, ty = .object n) ∨ ∃ t, ty = .array t)))
def zOK (cl : List vw_C) (Ts : List Cond) (own : String) (ctor : Bool) (nL : Nat) (cc : ByteArray) (pc : Nat) (I : Instr) (x : List Nat) (c : Int) : Prop := decode cc pc = .ok (I, zlen I) ∧ match I with
  | .bipush n => -128 ≤ n ∧ n ≤ 127
  | .sipush n => -32768 ≤ n ∧ n ≤ 32767
  | .ldc i => Cond.constant own i (Int32.ofInt c) ∈ Ts
  | .ldc_w i => Cond.constant own i (Int32.ofInt c) ∈ Ts
  | .ldc2_w i => Cond.constantLong own i (Int64.ofInt c) ∈ Ts
  | .istore i => i < nL
  | .istore_n i => (i : Nat) < nL
  | .astore i => i < nL
  | .astore_n i => (i : Nat) < nL
  | .lstore i => i + 1 < nL
  | .lstore_n i => (i : Nat) + 1 < nL
  | .getfield i => ∃ ci j k, x = [ci, j, k] ∧ zFl cl Ts own i ci j
  | .putfield i => ∃ ci j k, x = [ci, j, k] ∧ zPf cl Ts own ctor i ci j k
  | .new i => ∃ ci ks, x = ci :: ks ∧ zNw cl Ts own i ci ks
  | .newarray t => (x = [0] ∧ t = .int ∧ Cond.arrayClass .int ∈ Ts) ∨ (x = [1] ∧ t = .long ∧ Cond.arrayClass .long ∈ Ts)
  | .anewarray i => ∃ ci C T N, x = [102 + ci] ∧ cl[ci]? = some (C, T, N) ∧ Cond.classLink own i C ∈ Ts ∧ Cond.arrayOver (.object C) ∈ Ts
  | .aaload => ∃ ci, x = [102 + ci]
  | .aastore => ∃ ci, x = [102 + ci, ci]
  | _ => True
theorem zfit_r {ads : List Nat} {r : Option Nat} {V : Value} {ty : FieldType} (h : zcR ads (.inr (.inr r)) V) (ht : (∃ n, ty = .object n) ∨ ∃ t, ty = .array t) : narrow ty V = V ∧ fits ty V = true := by
  rcases r with _ | p
  · cases h
    rcases ht with ⟨n, rfl⟩ | ⟨t, rfl⟩ <;> exact ⟨rfl, rfl⟩
  · obtain ⟨a, -, rfl⟩ := h
    rcases ht with ⟨n, rfl⟩ | ⟨t, rfl⟩ <;> exact ⟨rfl, rfl⟩
theorem zfit_b {x : Int} (h : x = 0 ∨ x = 1) : narrow .boolean (.int (Int32.ofInt x)) = .int (Int32.ofInt x) ∧ fits .boolean (.int (Int32.ofInt x)) = true := by
  rcases h with rfl | rfl <;> exact ⟨by decide, by decide⟩
/-- the place where a field is read -/
theorem zfd_some {h : zH} {r : Option Nat} {ci j : Nat} {v : zV} (q : zfd h r ci j = some v) : ∃ p c, r = some (p + 1) ∧ h[p]? = some c ∧ c.1 = ci ∧ c.2[j]? = some v := by
  rcases r with _ | _ | p
  · cases q
  · cases q
  · unfold zfd at q
    dsimp only at q
    cases hc : h[p]? with
    | none => rw [hc] at q; cases q
    | some c =>
      rw [hc] at q
      dsimp only at q
      split at q
      next he => exact ⟨p, c, rfl, hc, he, q⟩
      next => cases q
theorem zpf_some {h : zH} {r : Option Nat} {ci j : Nat} {v : zV} {f : zH → Option zR} {res : zR} (q : zpf h r ci j v f = some res) : ∃ p c, r = some (p + 1) ∧ h[p]? = some c ∧ c.1 = ci ∧ j < c.2.length ∧ f (h.set p (c.1, c.2.set j v)) = some res := by
  rcases r with _ | _ | p
  · cases q
  · cases q
  · unfold zpf at q
    dsimp only at q
    cases hc : h[p]? with
    | none => rw [hc] at q; cases q
    | some c =>
      rw [hc] at q
      dsimp only at q
      split at q
      next he => exact ⟨p, c, rfl, hc, he.1, he.2, q⟩
      next => cases q
theorem zst_some {h : zH} {r : Option Nat} {tag : Nat} {i : Int} {v : zV} {f : zH → Option zR} {res : zR} (q : zst h r tag i v f = some res) : ∃ p c, r = some (p + 1) ∧ h[p]? = some c ∧ c.1 = tag ∧ 0 ≤ zw i ∧ (zw i).toNat < c.2.length ∧ f (h.set p (c.1, c.2.set (zw i).toNat v)) = some res := by
  rcases r with _ | _ | p
  · cases q
  · cases q
  · unfold zst at q
    dsimp only at q
    cases hc : h[p]? with
    | none => rw [hc] at q; cases q
    | some c =>
      rw [hc] at q
      dsimp only at q
      split at q
      next he => exact ⟨p, c, rfl, hc, he.1, he.2.1, he.2.2, q⟩
      next => cases q
theorem zar_some {xs : List Int} {h : zH} {r : Option Nat} {tag : Nat} {i : Int} {v : zV} (q : zar xs h r tag i = some v) : 0 ≤ zw i ∧ ((r = some 0 ∧ tag = 100 ∧ ∃ x, xs[(zw i).toNat]? = some x ∧ v = .inl x) ∨ ∃ p c, r = some (p + 1) ∧ h[p]? = some c ∧ c.1 = tag ∧ c.2[(zw i).toNat]? = some v) := by
  rcases r with _ | _ | p
  · cases q
  · unfold zar at q
    dsimp only at q
    split at q
    next he =>
      refine ⟨he.2, Or.inl ⟨rfl, he.1, ?_⟩⟩
      cases hx : xs[(zw i).toNat]? with
      | none => rw [hx] at q; cases q
      | some x => rw [hx] at q; cases q; exact ⟨x, rfl, rfl⟩
    next => cases q
  · unfold zar at q
    dsimp only at q
    cases hc : h[p]? with
    | none => rw [hc] at q; cases q
    | some c =>
      rw [hc] at q
      dsimp only at q
      split at q
      next he => exact ⟨he.2, Or.inr ⟨p, c, rfl, hc, he.1, q⟩⟩
      next => cases q
theorem zRep_obj {cl : List vw_C} {ads : List Nat} {tys : List (ClassId × FieldType)} {ws : va_W} {h : zH} (hR : zRep cl ads tys ws h) {p a : Nat} {c : Nat × List zV} (hp : h[p]? = some c) (ht : c.1 < 100) (ha : ads[p + 1]? = some a) : ∃ fs, ws[p]? = some (a, .inr (c.1, fs)) ∧ zSt ads c.2 fs := by
  obtain ⟨a1, e, q1, q2, q3⟩ := hR.2.2 p c hp
  cases ha.symm.trans q1
  rcases q3 with ⟨-, fs, rfl, h3⟩ | ⟨h1, -⟩ | ⟨h1, -⟩ | ⟨h1, -⟩
  · exact ⟨fs, q2, h3⟩
  · omega
  · omega
  · omega
theorem zRep_int {cl : List vw_C} {ads : List Nat} {tys : List (ClassId × FieldType)} {ws : va_W} {h : zH} (hR : zRep cl ads tys ws h) {p a : Nat} {c : Nat × List zV} (hp : h[p]? = some c) (ht : c.1 = 100) (ha : ads[p + 1]? = some a) : ∃ (cA : ClassId) (f : Nat → Int32), ws[p]? = some (a, .inl (cA, c.2.length, .inl f)) ∧ (cA, FieldType.int) ∈ tys ∧ ∀ (j : Nat) (v : zV), c.2[j]? = some v → ∃ x, v = .inl x ∧ f j = Int32.ofInt x := by
  obtain ⟨a1, e, q1, q2, q3⟩ := hR.2.2 p c hp
  cases ha.symm.trans q1
  rcases q3 with ⟨h1, -⟩ | ⟨-, cA, f, rfl, h3, h4⟩ | ⟨h1, -⟩ | ⟨h1, -⟩
  · omega
  · exact ⟨cA, f, q2, h3, h4⟩
  · omega
  · omega
theorem zRep_long {cl : List vw_C} {ads : List Nat} {tys : List (ClassId × FieldType)} {ws : va_W} {h : zH} (hR : zRep cl ads tys ws h) {p a : Nat} {c : Nat × List zV} (hp : h[p]? = some c) (ht : c.1 = 101) (ha : ads[p + 1]? = some a) : ∃ (cA : ClassId) (f : Nat → Int64), ws[p]? = some (a, .inl (cA, c.2.length, .inr (.inl f))) ∧ (cA, FieldType.long) ∈ tys ∧ ∀ (j : Nat) (v : zV), c.2[j]? = some v → ∃ x, v = .inr (.inl x) ∧ f j = Int64.ofInt x := by
  obtain ⟨a1, e, q1, q2, q3⟩ := hR.2.2 p c hp
  cases ha.symm.trans q1
  rcases q3 with ⟨h1, -⟩ | ⟨h1, -⟩ | ⟨-, cA, f, rfl, h3, h4⟩ | ⟨h1, -⟩
  · omega
  · omega
  · exact ⟨cA, f, q2, h3, h4⟩
  · omega
theorem zRep_ref {cl : List vw_C} {ads : List Nat} {tys : List (ClassId × FieldType)} {ws : va_W} {h : zH} (hR : zRep cl ads tys ws h) {p a : Nat} {c : Nat × List zV} (hp : h[p]? = some c) (ht : 102 ≤ c.1) (ha : ads[p + 1]? = some a) : ∃ (cA : ClassId) (f : Nat → Option Nat) (r : vw_C), ws[p]? = some (a, .inl (cA, c.2.length, .inr (.inr (.inr (.inr f))))) ∧ cl[c.1 - 102]? = some r ∧ (cA, FieldType.object r.1) ∈ tys ∧ ∀ (j : Nat) (v : zV), c.2[j]? = some v → ∃ x, v = .inr (.inr x) ∧ zcR ads (.inr (.inr x)) (va_rf (f j)) := by
  obtain ⟨a1, e, q1, q2, q3⟩ := hR.2.2 p c hp
  cases ha.symm.trans q1
  rcases q3 with ⟨h1, -⟩ | ⟨h1, -⟩ | ⟨h1, -⟩ | ⟨-, cA, f, r, rfl, h3, h4, h5⟩
  · omega
  · omega
  · omega
  · exact ⟨cA, f, r, q2, h3, h4, h5⟩
theorem zRep_arr {cl : List vw_C} {ads : List Nat} {tys : List (ClassId × FieldType)} {ws : va_W} {h : zH} (hR : zRep cl ads tys ws h) {p a : Nat} {c : Nat × List zV} (hp : h[p]? = some c) (ht : 100 ≤ c.1) (ha : ads[p + 1]? = some a) : ∃ (cA : ClassId) (x : vp_A) (ty : FieldType), ws[p]? = some (a, .inl (cA, x)) ∧ (cA, ty) ∈ tys ∧ x.1 = c.2.length := by
  obtain ⟨a1, e, q1, q2, q3⟩ := hR.2.2 p c hp
  cases ha.symm.trans q1
  rcases q3 with ⟨h1, -⟩ | ⟨-, cA, f, rfl, h3, -⟩ | ⟨-, cA, f, rfl, h3, -⟩ | ⟨-, cA, f, r, rfl, -, h4, -⟩
  · omega
  · exact ⟨cA, _, _, q2, h3, rfl⟩
  · exact ⟨cA, _, _, q2, h3, rfl⟩
  · exact ⟨cA, _, _, q2, h4, rfl⟩
theorem zofNat (n : Nat) : Int32.ofNat n = Int32.ofInt (n : Int) := by
  apply Int32.toBitVec_inj.mp
  simp
def zdfv : Nat → Value
  | 0 => .int 0
  | 1 => .long 0
  | _ => .null
theorem zdfv_ok (ads : List Nat) : ∀ ks : List Nat, zSt ads (ks.map fun t => match t with | 0 => .inl 0 | 1 => .inr (.inl 0) | _ => .inr (.inr none)) (ks.map zdfv)
  | [] => trivial
  | 0 :: ks => ⟨rfl, zdfv_ok ads ks⟩
  | 1 :: ks => ⟨rfl, zdfv_ok ads ks⟩
  | (_ + 2) :: ks => ⟨rfl, zdfv_ok ads ks⟩
section ZSIM
variable {p : Program} {l : Launch} {e : Env} {R : Room} {s : State} {m : MethodId} {args : Array Value} {below : List Frame} {meth : Method} {c : Code} {Q : State → Prop}
variable {cc : ByteArray} {nL : Nat} {own : String} {D : va_G} {cl : List vw_C} {A : Nat → Prop} {xs : List Int} {ads0 : List Nat} {n0 z0 : Nat} {Ts : List Cond} {ctor : Bool}
/-- the method's own circumstances -/
def zCtx (p : Program) (s : State) (m : MethodId) (args : Array Value) (meth : Method) (c : Code) (cc : ByteArray) (nL : Nat) (own : String) (ctor : Bool) (cl : List vw_C) (A : Nat → Prop) (xs : List Int) (ads0 : List Nat) (Ts : List Cond) : Prop :=
  p.tables.exec = Jvm.exec ∧ c.code = cc ∧ c.maxLocals = nL ∧ (∀ w ∈ Ts, w.before args s = true) ∧ s.vm.findClass own = some m.cls ∧ (∀ q, s.heap.size ≤ q → A q) ∧ zCl cl Ts ∧ (ctor = true → meth.name = "<init>") ∧ ∃ b, ads0[0]? = some b ∧ va_X b xs.length (zxf xs) s s.heap ∧ b < s.heap.size ∧ ¬ A b
def zSim (p : Program) (l : Launch) (e : Env) (R : Room) (s : State) (m : MethodId) (args : Array Value) (below : List Frame) (meth : Method) (c : Code) (Q : State → Prop) (nL : Nat) (D : va_G) (cl : List vw_C) (A : Nat → Prop) (ads0 : List Nat) (n0 z0 : Nat) (pc : Nat) (L : zL) (st : List zV) (h : zH) : Prop :=
  ∀ (ls : Array Slot) (sv : List Value) (H : Heap) (locs : List Loc) (cells slots : Nat) (ads : List Nat) (tys : List (ClassId × FieldType)) (ws : va_W), zLo ads nL L ls → zSt ads st sv → zRep cl ads tys ws h → zpre ads0 ads → va_K D cl tys s → va_P D cl ws H → va_D A ws → va_S A s.heap H locs → cells + n0 = h.length → slots + z0 = zsz h → W p l e R s m args below meth c H locs cells slots Q (F0 m pc ls sv)
theorem zS_arith (C0 : zCtx p s m args meth c cc nL own ctor cl A xs ads0 Ts) {pc : Nat} {I : Instr} {x : List Nat} {cv : Int} {L : zL} {st : List zV} {h : zH} {k : zL → List zV → zH → Option zR} {res : zR} (ok : zOK cl Ts own ctor nL cc pc I x cv)
    (hk : ∀ L' st' h', k L' st' h' = some res → zSim p l e R s m args below meth c Q nL D cl A ads0 n0 z0 (pc + zlen I) L' st' h') (hr : ∀ L' st' h', k L' st' h' = some res → h'.length ≤ R.cells + n0 ∧ zsz h' ≤ R.slots + z0)
    (q : zS xs I x cv L st h k = some res) : zSim p l e R s m args below meth c Q nL D cl A ads0 n0 z0 pc L st h := by
  intro ls sv H locs cells slots ads tys ws hL hst hR hpre hK hP hD hS hn hz
  obtain ⟨hx, hb, hml, hts, hown, hA, hcl, hct, b, hb0, hX, hbl, hbA⟩ := C0
  obtain ⟨hd, ok⟩ := ok
  cases I
  case iconst n => exact lv_iconst hx hb hd rfl (hk _ _ _ q _ _ _ _ _ _ _ _ _ hL ⟨rfl, hst⟩ hR hpre hK hP hD hS hn hz)
  case bipush n => exact lv_bipush hx hb hd (zw_bip ok.1 ok.2) (hk _ _ _ q _ _ _ _ _ _ _ _ _ hL ⟨rfl, hst⟩ hR hpre hK hP hD hS hn hz)
  case sipush n => exact lv_sipush hx hb hd (zw_sip ok.1 ok.2) (hk _ _ _ q _ _ _ _ _ _ _ _ _ hL ⟨rfl, hst⟩ hR hpre hK hP hD hS hn hz)
  case ldc i => exact lv_ldc hx hb hown (hts _ ok) hd (hk _ _ _ q _ _ _ _ _ _ _ _ _ hL ⟨rfl, hst⟩ hR hpre hK hP hD hS hn hz)
  case ldc_w i => exact lv_ldcw hx hb hown (hts _ ok) hd (hk _ _ _ q _ _ _ _ _ _ _ _ _ hL ⟨rfl, hst⟩ hR hpre hK hP hD hS hn hz)
  case ldc2_w i => exact lv_ldc2 hx hb hown (hts _ ok) hd (hk _ _ _ q _ _ _ _ _ _ _ _ _ hL ⟨rfl, hst⟩ hR hpre hK hP hD hS hn hz)
  case lconst n => exact lv_lconst (v := Int64.ofInt ((n : Nat) : Int)) hx hb hd (by clear hk hr q hd ok; revert n; decide) (hk _ _ _ q _ _ _ _ _ _ _ _ _ hL ⟨rfl, hst⟩ hR hpre hK hP hD hS hn hz)
  case aconst_null => exact lv_null hx hb hd (hk _ _ _ q _ _ _ _ _ _ _ _ _ hL ⟨rfl, hst⟩ hR hpre hK hP hD hS hn hz)
  case iload i =>
    simp only [zS] at q
    split at q
    next v hv =>
      obtain ⟨V, e1, e2⟩ := zLo_ld hL hv
      cases e2
      exact lv_iload hx hb hd e1 (hk _ _ _ q _ _ _ _ _ _ _ _ _ hL ⟨rfl, hst⟩ hR hpre hK hP hD hS hn hz)
    next => cases q
  case iload_n i =>
    simp only [zS] at q
    split at q
    next v hv =>
      obtain ⟨V, e1, e2⟩ := zLo_ld hL hv
      cases e2
      exact lv_iload_n hx hb hd rfl e1 (hk _ _ _ q _ _ _ _ _ _ _ _ _ hL ⟨rfl, hst⟩ hR hpre hK hP hD hS hn hz)
    next => cases q
  case lload i =>
    simp only [zS] at q
    split at q
    next v hv =>
      obtain ⟨V, e1, e2⟩ := zLo_ld hL hv
      cases e2
      exact lv_lload hx hb hd e1 (hk _ _ _ q _ _ _ _ _ _ _ _ _ hL ⟨rfl, hst⟩ hR hpre hK hP hD hS hn hz)
    next => cases q
  case lload_n i =>
    simp only [zS] at q
    split at q
    next v hv =>
      obtain ⟨V, e1, e2⟩ := zLo_ld hL hv
      cases e2
      exact lv_lload_n hx hb hd rfl e1 (hk _ _ _ q _ _ _ _ _ _ _ _ _ hL ⟨rfl, hst⟩ hR hpre hK hP hD hS hn hz)
    next => cases q
  case aload i =>
    simp only [zS] at q
    split at q
    next v hv =>
      obtain ⟨V, e1, e2⟩ := zLo_ld hL hv
      rcases v with _ | v
      · cases e2
        exact lv_aloadN hx hb hd e1 (hk _ _ _ q _ _ _ _ _ _ _ _ _ hL ⟨rfl, hst⟩ hR hpre hK hP hD hS hn hz)
      · obtain ⟨a, e3, rfl⟩ := e2
        exact lv_aload hx hb hd e1 (hk _ _ _ q _ _ _ _ _ _ _ _ _ hL ⟨⟨a, e3, rfl⟩, hst⟩ hR hpre hK hP hD hS hn hz)
    next => cases q
  case aload_n i =>
    simp only [zS] at q
    split at q
    next v hv =>
      obtain ⟨V, e1, e2⟩ := zLo_ld hL hv
      rcases v with _ | v
      · cases e2
        exact lv_aload_nN hx hb hd rfl e1 (hk _ _ _ q _ _ _ _ _ _ _ _ _ hL ⟨rfl, hst⟩ hR hpre hK hP hD hS hn hz)
      · obtain ⟨a, e3, rfl⟩ := e2
        exact lv_aload_n hx hb hd rfl e1 (hk _ _ _ q _ _ _ _ _ _ _ _ _ hL ⟨⟨a, e3, rfl⟩, hst⟩ hR hpre hK hP hD hS hn hz)
    next => cases q
  case istore i =>
    rcases st with _ | ⟨v | v | v, st⟩ <;> first | (cases q; done) | skip
    obtain ⟨T, rfl, hst1⟩ := zSt_i hst
    obtain ⟨lv, hlv, hc⟩ := zLo_lv hL
    exact lv_istore hx hb hd hlv ok rfl (fun ls' hlz => hk _ _ _ q _ _ _ _ _ _ _ _ _ (zLo_s1 hc rfl hlz) hst1 hR hpre hK hP hD hS hn hz)
  case istore_n i =>
    rcases st with _ | ⟨v | v | v, st⟩ <;> first | (cases q; done) | skip
    obtain ⟨T, rfl, hst1⟩ := zSt_i hst
    obtain ⟨lv, hlv, hc⟩ := zLo_lv hL
    exact lv_istore_n hx hb hd rfl hlv ok rfl (fun ls' hlz => hk _ _ _ q _ _ _ _ _ _ _ _ _ (zLo_s1 hc rfl hlz) hst1 hR hpre hK hP hD hS hn hz)
  case lstore i =>
    rcases st with _ | ⟨v | v | v, st⟩ <;> first | (cases q; done) | skip
    obtain ⟨T, rfl, hst1⟩ := zSt_l hst
    obtain ⟨lv, hlv, hc⟩ := zLo_lv hL
    exact lv_lstore hx hb hd hlv ok rfl (fun ls' hlz => hk _ _ _ q _ _ _ _ _ _ _ _ _ (zLo_s2 hc rfl hlz) hst1 hR hpre hK hP hD hS hn hz)
  case lstore_n i =>
    rcases st with _ | ⟨v | v | v, st⟩ <;> first | (cases q; done) | skip
    obtain ⟨T, rfl, hst1⟩ := zSt_l hst
    obtain ⟨lv, hlv, hc⟩ := zLo_lv hL
    exact lv_lstore_n hx hb hd rfl hlv ok rfl (fun ls' hlz => hk _ _ _ q _ _ _ _ _ _ _ _ _ (zLo_s2 hc rfl hlz) hst1 hR hpre hK hP hD hS hn hz)
  case astore i =>
    rcases st with _ | ⟨v | v | v, st⟩ <;> first | (cases q; done) | skip
    obtain ⟨V, T, rfl, hv, hst1⟩ := zSt_r hst
    obtain ⟨lv, hlv, hc⟩ := zLo_lv hL
    rcases v with _ | v
    · cases hv
      exact lv_astoreN hx hb hd hlv ok rfl (fun ls' hlz => hk _ _ _ q _ _ _ _ _ _ _ _ _ (zLo_s1 hc rfl hlz) hst1 hR hpre hK hP hD hS hn hz)
    · obtain ⟨a, e3, rfl⟩ := hv
      exact lv_astore hx hb hd hlv ok rfl (fun ls' hlz => hk _ _ _ q _ _ _ _ _ _ _ _ _ (zLo_s1 hc ⟨a, e3, rfl⟩ hlz) hst1 hR hpre hK hP hD hS hn hz)
  case astore_n i =>
    rcases st with _ | ⟨v | v | v, st⟩ <;> first | (cases q; done) | skip
    obtain ⟨V, T, rfl, hv, hst1⟩ := zSt_r hst
    obtain ⟨lv, hlv, hc⟩ := zLo_lv hL
    rcases v with _ | v
    · cases hv
      exact lv_astore_nN hx hb hd rfl hlv ok rfl (fun ls' hlz => hk _ _ _ q _ _ _ _ _ _ _ _ _ (zLo_s1 hc rfl hlz) hst1 hR hpre hK hP hD hS hn hz)
    · obtain ⟨a, e3, rfl⟩ := hv
      exact lv_astore_n hx hb hd rfl hlv ok rfl (fun ls' hlz => hk _ _ _ q _ _ _ _ _ _ _ _ _ (zLo_s1 hc ⟨a, e3, rfl⟩ hlz) hst1 hR hpre hK hP hD hS hn hz)
  case iinc i n =>
    simp only [zS] at q
    split at q
    next v hv =>
      obtain ⟨V, e1, e2⟩ := zLo_ld hL hv
      cases e2
      obtain ⟨lv, hlv, hc⟩ := zLo_lv hL
      have hlv2 : lv_has ls nL ((i, .int (Int32.ofInt v)) :: lv) := ⟨hlv.1, hlv.2.1, fun q hq => by
        rcases List.mem_cons.mp hq with rfl | hq
        · exact e1
        · exact hlv.2.2 q hq⟩
      have hi : i < nL := by rw [← hL.1]; exact lv_lt e1
      exact lv_iinc (k := 0) hx hb hd hlv2 rfl (Int32.ofInt_add v n).symm hi rfl (fun ls' hlz => hk _ _ _ q _ _ _ _ _ _ _ _ _ (zLo_s1 (fun j w hw => by obtain ⟨W, z1, z2⟩ := hc j w hw; exact ⟨W, List.mem_cons_of_mem _ z1, z2⟩) rfl hlz) hst hR hpre hK hP hD hS hn hz)
    next => cases q
  case iadd =>
    rcases st with _ | ⟨b | b | b, _ | ⟨a | a | a, st⟩⟩ <;> first | (cases q; done) | skip
    obtain ⟨T, rfl, hst1⟩ := zSt_i hst
    obtain ⟨T, rfl, hst2⟩ := zSt_i hst1
    exact lv_iadd hx hb hd (hk _ _ _ q _ _ _ _ _ _ _ _ _ hL ⟨by show _ = _; rw [Int32.ofInt_add], hst2⟩ hR hpre hK hP hD hS hn hz)
  case isub =>
    rcases st with _ | ⟨b | b | b, _ | ⟨a | a | a, st⟩⟩ <;> first | (cases q; done) | skip
    obtain ⟨T, rfl, hst1⟩ := zSt_i hst
    obtain ⟨T, rfl, hst2⟩ := zSt_i hst1
    exact lv_isub hx hb hd (hk _ _ _ q _ _ _ _ _ _ _ _ _ hL ⟨by show _ = _; rw [Int32.ofInt_sub], hst2⟩ hR hpre hK hP hD hS hn hz)
  case imul =>
    rcases st with _ | ⟨b | b | b, _ | ⟨a | a | a, st⟩⟩ <;> first | (cases q; done) | skip
    obtain ⟨T, rfl, hst1⟩ := zSt_i hst
    obtain ⟨T, rfl, hst2⟩ := zSt_i hst1
    exact lv_imul hx hb hd (hk _ _ _ q _ _ _ _ _ _ _ _ _ hL ⟨by show _ = _; rw [Int32.ofInt_mul], hst2⟩ hR hpre hK hP hD hS hn hz)
  case iand =>
    rcases st with _ | ⟨b | b | b, _ | ⟨a | a | a, st⟩⟩ <;> first | (cases q; done) | skip
    obtain ⟨T, rfl, hst1⟩ := zSt_i hst
    obtain ⟨T, rfl, hst2⟩ := zSt_i hst1
    exact lv_iand hx hb hd (hk _ _ _ q _ _ _ _ _ _ _ _ _ hL ⟨by show _ = _; unfold zand; rw [Int32.ofInt_toInt], hst2⟩ hR hpre hK hP hD hS hn hz)
  case ior =>
    rcases st with _ | ⟨b | b | b, _ | ⟨a | a | a, st⟩⟩ <;> first | (cases q; done) | skip
    obtain ⟨T, rfl, hst1⟩ := zSt_i hst
    obtain ⟨T, rfl, hst2⟩ := zSt_i hst1
    exact lv_ior hx hb hd (hk _ _ _ q _ _ _ _ _ _ _ _ _ hL ⟨by show _ = _; unfold zor; rw [Int32.ofInt_toInt], hst2⟩ hR hpre hK hP hD hS hn hz)
  case ishl =>
    rcases st with _ | ⟨b | b | b, _ | ⟨a | a | a, st⟩⟩ <;> first | (cases q; done) | skip
    obtain ⟨T, rfl, hst1⟩ := zSt_i hst
    obtain ⟨T, rfl, hst2⟩ := zSt_i hst1
    exact lv_ishl hx hb hd (hk _ _ _ q _ _ _ _ _ _ _ _ _ hL ⟨by show _ = _; unfold zshl; rw [Int32.ofInt_toInt], hst2⟩ hR hpre hK hP hD hS hn hz)
  case ishr =>
    rcases st with _ | ⟨b | b | b, _ | ⟨a | a | a, st⟩⟩ <;> first | (cases q; done) | skip
    obtain ⟨T, rfl, hst1⟩ := zSt_i hst
    obtain ⟨T, rfl, hst2⟩ := zSt_i hst1
    exact lv_ishr hx hb hd (hk _ _ _ q _ _ _ _ _ _ _ _ _ hL ⟨by show _ = _; unfold zshr; rw [Int32.ofInt_toInt], hst2⟩ hR hpre hK hP hD hS hn hz)
  case iushr =>
    rcases st with _ | ⟨b | b | b, _ | ⟨a | a | a, st⟩⟩ <;> first | (cases q; done) | skip
    obtain ⟨T, rfl, hst1⟩ := zSt_i hst
    obtain ⟨T, rfl, hst2⟩ := zSt_i hst1
    exact lv_iushr hx hb hd rfl (hk _ _ _ q _ _ _ _ _ _ _ _ _ hL ⟨by show _ = _; unfold zushr; rw [Int32.ofInt_toInt], hst2⟩ hR hpre hK hP hD hS hn hz)
  case idiv =>
    rcases st with _ | ⟨b | b | b, _ | ⟨a | a | a, st⟩⟩ <;> first | (cases q; done) | skip
    obtain ⟨T, rfl, hst1⟩ := zSt_i hst
    obtain ⟨T, rfl, hst2⟩ := zSt_i hst1
    simp only [zS] at q
    split at q
    next => cases q
    next h0 => exact lv_idiv hx hb hd (fun z => h0 ((zw_eq0 b).mp z)) (hk _ _ _ q _ _ _ _ _ _ _ _ _ hL ⟨by show _ = _; rw [zw_div], hst2⟩ hR hpre hK hP hD hS hn hz)
  case irem =>
    rcases st with _ | ⟨b | b | b, _ | ⟨a | a | a, st⟩⟩ <;> first | (cases q; done) | skip
    obtain ⟨T, rfl, hst1⟩ := zSt_i hst
    obtain ⟨T, rfl, hst2⟩ := zSt_i hst1
    simp only [zS] at q
    split at q
    next => cases q
    next h0 => exact lv_irem hx hb hd (fun z => h0 ((zw_eq0 b).mp z)) (hk _ _ _ q _ _ _ _ _ _ _ _ _ hL ⟨by show _ = _; rw [zw_mod], hst2⟩ hR hpre hK hP hD hS hn hz)
  case ineg =>
    rcases st with _ | ⟨a | a | a, st⟩ <;> first | (cases q; done) | skip
    obtain ⟨T, rfl, hst1⟩ := zSt_i hst
    exact lv_ineg hx hb hd (hk _ _ _ q _ _ _ _ _ _ _ _ _ hL ⟨by show _ = _; rw [Int32.ofInt_neg], hst1⟩ hR hpre hK hP hD hS hn hz)
  case i2l =>
    rcases st with _ | ⟨a | a | a, st⟩ <;> first | (cases q; done) | skip
    obtain ⟨T, rfl, hst1⟩ := zSt_i hst
    exact lv_i2l hx hb hd (zw_i2l a) (hk _ _ _ q _ _ _ _ _ _ _ _ _ hL ⟨rfl, hst1⟩ hR hpre hK hP hD hS hn hz)
  case l2i =>
    rcases st with _ | ⟨a | a | a, st⟩ <;> first | (cases q; done) | skip
    obtain ⟨T, rfl, hst1⟩ := zSt_l hst
    exact lv_l2i hx hb hd (zw_l2i a) (hk _ _ _ q _ _ _ _ _ _ _ _ _ hL ⟨rfl, hst1⟩ hR hpre hK hP hD hS hn hz)
  case ladd =>
    rcases st with _ | ⟨b | b | b, _ | ⟨a | a | a, st⟩⟩ <;> first | (cases q; done) | skip
    obtain ⟨T, rfl, hst1⟩ := zSt_l hst
    obtain ⟨T, rfl, hst2⟩ := zSt_l hst1
    exact lv_ladd hx hb hd (hk _ _ _ q _ _ _ _ _ _ _ _ _ hL ⟨by show _ = _; rw [Int64.ofInt_add], hst2⟩ hR hpre hK hP hD hS hn hz)
  case lsub =>
    rcases st with _ | ⟨b | b | b, _ | ⟨a | a | a, st⟩⟩ <;> first | (cases q; done) | skip
    obtain ⟨T, rfl, hst1⟩ := zSt_l hst
    obtain ⟨T, rfl, hst2⟩ := zSt_l hst1
    exact lv_lsub hx hb hd (hk _ _ _ q _ _ _ _ _ _ _ _ _ hL ⟨by show _ = _; rw [Int64.ofInt_sub], hst2⟩ hR hpre hK hP hD hS hn hz)
  case lmul =>
    rcases st with _ | ⟨b | b | b, _ | ⟨a | a | a, st⟩⟩ <;> first | (cases q; done) | skip
    obtain ⟨T, rfl, hst1⟩ := zSt_l hst
    obtain ⟨T, rfl, hst2⟩ := zSt_l hst1
    exact lv_lmul hx hb hd (hk _ _ _ q _ _ _ _ _ _ _ _ _ hL ⟨by show _ = _; rw [Int64.ofInt_mul], hst2⟩ hR hpre hK hP hD hS hn hz)
  case land =>
    rcases st with _ | ⟨b | b | b, _ | ⟨a | a | a, st⟩⟩ <;> first | (cases q; done) | skip
    obtain ⟨T, rfl, hst1⟩ := zSt_l hst
    obtain ⟨T, rfl, hst2⟩ := zSt_l hst1
    exact lv_land hx hb hd (hk _ _ _ q _ _ _ _ _ _ _ _ _ hL ⟨by show _ = _; unfold zandl; rw [Int64.ofInt_toInt], hst2⟩ hR hpre hK hP hD hS hn hz)
  case lor =>
    rcases st with _ | ⟨b | b | b, _ | ⟨a | a | a, st⟩⟩ <;> first | (cases q; done) | skip
    obtain ⟨T, rfl, hst1⟩ := zSt_l hst
    obtain ⟨T, rfl, hst2⟩ := zSt_l hst1
    exact lv_lor hx hb hd (hk _ _ _ q _ _ _ _ _ _ _ _ _ hL ⟨by show _ = _; unfold zorl; rw [Int64.ofInt_toInt], hst2⟩ hR hpre hK hP hD hS hn hz)
  case lneg =>
    rcases st with _ | ⟨a | a | a, st⟩ <;> first | (cases q; done) | skip
    obtain ⟨T, rfl, hst1⟩ := zSt_l hst
    exact lv_lneg hx hb hd (hk _ _ _ q _ _ _ _ _ _ _ _ _ hL ⟨by show _ = _; rw [Int64.ofInt_neg], hst1⟩ hR hpre hK hP hD hS hn hz)
  case ldiv =>
    rcases st with _ | ⟨b | b | b, _ | ⟨a | a | a, st⟩⟩ <;> first | (cases q; done) | skip
    obtain ⟨T, rfl, hst1⟩ := zSt_l hst
    obtain ⟨T, rfl, hst2⟩ := zSt_l hst1
    simp only [zS] at q
    split at q
    next => cases q
    next h0 => exact lv_ldiv hx hb hd (fun z => h0 ((zwl_eq0 b).mp z)) (hk _ _ _ q _ _ _ _ _ _ _ _ _ hL ⟨by show _ = _; rw [zwl_div], hst2⟩ hR hpre hK hP hD hS hn hz)
  case lrem =>
    rcases st with _ | ⟨b | b | b, _ | ⟨a | a | a, st⟩⟩ <;> first | (cases q; done) | skip
    obtain ⟨T, rfl, hst1⟩ := zSt_l hst
    obtain ⟨T, rfl, hst2⟩ := zSt_l hst1
    simp only [zS] at q
    split at q
    next => cases q
    next h0 => exact lv_lrem hx hb hd (fun z => h0 ((zwl_eq0 b).mp z)) (hk _ _ _ q _ _ _ _ _ _ _ _ _ hL ⟨by show _ = _; rw [zwl_mod], hst2⟩ hR hpre hK hP hD hS hn hz)
  case lshl =>
    rcases st with _ | ⟨b | b | b, _ | ⟨a | a | a, st⟩⟩ <;> first | (cases q; done) | skip
    obtain ⟨T, rfl, hst1⟩ := zSt_i hst
    obtain ⟨T, rfl, hst2⟩ := zSt_l hst1
    exact lv_lshl hx hb hd rfl (hk _ _ _ q _ _ _ _ _ _ _ _ _ hL ⟨by show _ = _; unfold zshll; rw [Int64.ofInt_toInt], hst2⟩ hR hpre hK hP hD hS hn hz)
  case lushr =>
    rcases st with _ | ⟨b | b | b, _ | ⟨a | a | a, st⟩⟩ <;> first | (cases q; done) | skip
    obtain ⟨T, rfl, hst1⟩ := zSt_i hst
    obtain ⟨T, rfl, hst2⟩ := zSt_l hst1
    exact lv_lushr hx hb hd rfl (hk _ _ _ q _ _ _ _ _ _ _ _ _ hL ⟨by show _ = _; unfold zushrl; rw [Int64.ofInt_toInt], hst2⟩ hR hpre hK hP hD hS hn hz)
  case lcmp =>
    rcases st with _ | ⟨b | b | b, _ | ⟨a | a | a, st⟩⟩ <;> first | (cases q; done) | skip
    obtain ⟨T, rfl, hst1⟩ := zSt_l hst
    obtain ⟨T, rfl, hst2⟩ := zSt_l hst1
    exact W.lcmp hx hb hd (hk _ _ _ q _ _ _ _ _ _ _ _ _ hL ⟨by show _ = _; rw [zwl_cmp], hst2⟩ hR hpre hK hP hD hS hn hz)
  case dup =>
    rcases st with _ | ⟨a | a | a, st⟩ <;> first | (cases q; done) | skip
    · obtain ⟨T, rfl, hst1⟩ := zSt_i hst
      exact lv_dup hx hb hd rfl (hk _ _ _ q _ _ _ _ _ _ _ _ _ hL ⟨rfl, rfl, hst1⟩ hR hpre hK hP hD hS hn hz)
    · obtain ⟨V, T, rfl, hv, hst1⟩ := zSt_r hst
      exact lv_dup hx hb hd (zcR_cat hv) (hk _ _ _ q _ _ _ _ _ _ _ _ _ hL ⟨hv, hv, hst1⟩ hR hpre hK hP hD hS hn hz)
  case dup2 =>
    rcases st with _ | ⟨b | b | b, _ | ⟨a | a | a, st⟩⟩ <;> first | (cases q; done) | skip
    obtain ⟨T, rfl, hst1⟩ := zSt_i hst
    obtain ⟨V, T, rfl, hv, hst2⟩ := zSt_r hst1
    exact lv_dup2_11 hx hb hd rfl (zcR_cat hv) (hk _ _ _ q _ _ _ _ _ _ _ _ _ hL ⟨rfl, hv, rfl, hv, hst2⟩ hR hpre hK hP hD hS hn hz)
  case pop =>
    rcases st with _ | ⟨a | a | a, st⟩ <;> first | (cases q; done) | skip
    · obtain ⟨T, rfl, hst1⟩ := zSt_i hst
      exact lv_pop hx hb hd rfl (hk _ _ _ q _ _ _ _ _ _ _ _ _ hL hst1 hR hpre hK hP hD hS hn hz)
    · obtain ⟨V, T, rfl, hv, hst1⟩ := zSt_r hst
      exact lv_pop hx hb hd (zcR_cat hv) (hk _ _ _ q _ _ _ _ _ _ _ _ _ hL hst1 hR hpre hK hP hD hS hn hz)
  case getfield i =>
    obtain ⟨ci, j, kd, rfl, T, N, hc, hj, hT1, hlink⟩ := ok
    have hcc := hcl ci _ _ _ hc
    have main : ∀ (r : Option Nat) (v : zV) (st' : List zV), st = .inr (.inr r) :: st' → zfd h r ci j = some v → zSim p l e R s m args below meth c Q nL D cl A ads0 n0 z0 (pc + 3) L (v :: st') h → W p l e R s m args below meth c H locs cells slots Q (F0 m pc ls sv) := by
      intro r v st' hst0 hv hkk
      subst hst0
      obtain ⟨p', c', rfl, hp, hci, hcj⟩ := zfd_some hv
      obtain ⟨V, sv', rfl, hV, hst1⟩ := zSt_r hst
      obtain ⟨a, ha, rfl⟩ := hV
      obtain ⟨fs, he, hfs⟩ := zRep_obj hR hp (by rw [hci]; exact hcc.2.2.2.2.2) ha
      rw [hci] at he
      obtain ⟨V2, g1, g2⟩ := zSt_get hfs hcj
      exact va_get hx hb hts hcc.1 hown hK hP p' he hc j hj (hts _ hlink) (fun x h9 => by rw [hT1] at h9; exact h9) g1 hd (hkk _ _ _ _ _ _ _ _ _ hL ⟨g2, hst1⟩ hR hpre hK hP hD hS hn hz)
    rcases kd with _ | _ | _ | kd <;> rcases st with _ | ⟨a | a | r, st⟩ <;> first | (cases q; done) | skip
    · simp only [zS, zgi] at q
      split at q
      next v hv => exact main r _ st rfl hv (hk _ _ _ q)
      next => cases q
    · simp only [zS, zgl] at q
      split at q
      next v hv => exact main r _ st rfl hv (hk _ _ _ q)
      next => cases q
    · simp only [zS, zgr] at q
      split at q
      next v hv => exact main r _ st rfl hv (hk _ _ _ q)
      next => cases q
  case putfield i =>
    obtain ⟨ci, j, kd, rfl, T, N, hc, hj, hT1, hlink, ⟨ty, hty, hkd⟩, hfin⟩ := ok
    obtain ⟨hcw, ⟨ty0, hty0⟩, hnm, -, -, hlt⟩ := hcl ci _ _ _ hc
    have main : ∀ (r : Option Nat) (v : zV) (st' : List zV), st = v :: .inr (.inr r) :: st' → (∀ V, zcR ads v V → narrow ty V = V ∧ fits ty V = true) → zpf h r ci j v (fun h => k L st' h) = some res → W p l e R s m args below meth c H locs cells slots Q (F0 m pc ls sv) := by
      intro r v st' hst0 hfit q1
      subst hst0
      obtain ⟨p', c', rfl, hp, hci, hlen, q2⟩ := zpf_some q1
      rcases sv with _ | ⟨V, sv⟩
      · exact hst.elim
      obtain ⟨hV0, hst0⟩ := hst
      obtain ⟨V2, sv', rfl, hV, hst1⟩ := zSt_r hst0
      obtain ⟨a, ha, rfl⟩ := hV
      obtain ⟨fs, he, hfs⟩ := zRep_obj hR hp (by rw [hci]; exact hlt) ha
      rw [hci] at he
      have hfs2 := zSt_len hfs
      obtain ⟨f1, f2⟩ := hfit V hV0
      have fin : ∀ (H1 : Heap) (locs1 : List Loc), va_P D cl (ws.set p' (a, .inr (ci, fs.set j V))) H1 → va_D A (ws.set p' (a, .inr (ci, fs.set j V))) → va_S A s.heap H1 locs1 → W p l e R s m args below meth c H1 locs1 cells slots Q (F0 m (pc + 3) ls sv') := fun H1 locs1 hP1 hD1 hS1 =>
        hk _ _ _ q2 _ _ _ _ _ _ _ _ _ hL hst1 (zRep_set hR ha (Or.inl ⟨by rw [hci]; exact hlt, fs.set j V, by rw [hci], zSt_set j hfs hV0⟩)) hpre hK hP1 hD1 hS1 (by rw [List.length_set]; exact hn) (by rw [zsz_set h p' c' _ hp (by simp)]; exact hz)
      by_cases hf0 : (T j).2.2.2 = false
      · exact va_put hx hb hts hcw ty0 hty0 hnm hown hK hP hD hS p' he hc j hj (hts _ hlink) (fun x h9 => by rw [hT1] at h9; exact h9) hf0 hty f1 f2 (by rw [hfs2]; exact hlen) hd fin
      · exact va_putF hx hb hts hcw ty0 hty0 hnm hown hK hP hD hS p' he hc j hj (hts _ hlink) (fun x h9 => by rw [hT1] at h9; exact h9) (by simpa using hf0) (hct (hfin.resolve_left hf0)) hT1 hty f1 f2 (by rw [hfs2]; exact hlen) hd fin
    rcases kd with _ | _ | _ | _ | kd <;> rcases st with _ | ⟨v | v | v, _ | ⟨a | a | r, st⟩⟩ <;> first | (cases q; done) | skip
    · cases hkd
      exact main r _ st rfl (fun V hV => by cases hV; exact ⟨rfl, rfl⟩) q
    · cases hkd
      exact main r _ st rfl (fun V hV => by cases hV; exact ⟨rfl, rfl⟩) q
    · exact main r _ st rfl (fun V hV => zfit_r hV hkd) q
    · cases hkd
      simp only [zS] at q
      split at q
      next hv => exact main r _ st rfl (fun V hV => by cases hV; exact zfit_b hv) q
      next => cases q
  case iaload =>
    rcases st with _ | ⟨i | i | i, _ | ⟨a | a | r, st⟩⟩ <;> first | (cases q; done) | skip
    simp only [zS, zai] at q
    split at q
    next v hv =>
      obtain ⟨T1, rfl, hst1⟩ := zSt_i hst
      obtain ⟨V, T2, rfl, hV, hst2⟩ := zSt_r hst1
      obtain ⟨h0, ⟨rfl, -, x0, hx0, hx1⟩ | ⟨p', c', rfl, hp, htag, hcj⟩⟩ := zar_some hv
      · cases hx1
        obtain ⟨a, ha, rfl⟩ := hV
        have hab : a = b := Option.some.inj (ha.symm.trans (hpre _ _ hb0))
        subst hab
        have hlt := (List.getElem?_eq_some_iff.mp hx0).1
        refine va_sld hx hb hX hbl hbA hS (zw_in h0 hlt) hd ?_
        refine hk _ _ _ q _ _ _ _ _ _ _ _ _ hL ⟨?_, hst2⟩ hR hpre hK hP hD hS hn hz
        show Value.int (zxf xs _) = _
        rw [zw_clamp]
        simp [zxf, List.getD, hx0]
      · obtain ⟨a, ha, rfl⟩ := hV
        obtain ⟨cA, f, he, ht, hf⟩ := zRep_int hR hp htag ha
        obtain ⟨t0, ht0⟩ := zty_mem ht
        obtain ⟨x1, e1, e2⟩ := hf _ _ hcj
        cases e1
        have hlt := (List.getElem?_eq_some_iff.mp hcj).1
        refine va_iald hx hb hK hP p' t0 he ht0 (zw_in h0 hlt) hd ?_
        refine hk _ _ _ q _ _ _ _ _ _ _ _ _ hL ⟨?_, hst2⟩ hR hpre hK hP hD hS hn hz
        show Value.int (f _) = _
        rw [zw_clamp, e2]
    next => cases q
  case laload =>
    rcases st with _ | ⟨i | i | i, _ | ⟨a | a | r, st⟩⟩ <;> first | (cases q; done) | skip
    simp only [zS, zal] at q
    split at q
    next v hv =>
      obtain ⟨T1, rfl, hst1⟩ := zSt_i hst
      obtain ⟨V, T2, rfl, hV, hst2⟩ := zSt_r hst1
      obtain ⟨h0, ⟨rfl, hbad, -⟩ | ⟨p', c', rfl, hp, htag, hcj⟩⟩ := zar_some hv
      · exact absurd hbad (by decide)
      · obtain ⟨a, ha, rfl⟩ := hV
        obtain ⟨cA, f, he, ht, hf⟩ := zRep_long hR hp htag ha
        obtain ⟨t0, ht0⟩ := zty_mem ht
        obtain ⟨x1, e1, e2⟩ := hf _ _ hcj
        cases e1
        have hlt := (List.getElem?_eq_some_iff.mp hcj).1
        refine va_lald hx hb hK hP p' t0 he ht0 (zw_in h0 hlt) hd ?_
        refine hk _ _ _ q _ _ _ _ _ _ _ _ _ hL ⟨?_, hst2⟩ hR hpre hK hP hD hS hn hz
        show Value.long (f _) = _
        rw [zw_clamp, e2]
    next => cases q
  case aaload =>
    obtain ⟨ci, rfl⟩ := ok
    rcases st with _ | ⟨i | i | i, _ | ⟨a | a | r, st⟩⟩ <;> first | (cases q; done) | skip
    simp only [zS, zaa] at q
    split at q
    next v hv =>
      obtain ⟨T1, rfl, hst1⟩ := zSt_i hst
      obtain ⟨V, T2, rfl, hV, hst2⟩ := zSt_r hst1
      obtain ⟨h0, ⟨rfl, hbad, -⟩ | ⟨p', c', rfl, hp, htag, hcj⟩⟩ := zar_some hv
      · omega
      · obtain ⟨a, ha, rfl⟩ := hV
        obtain ⟨cA, f, r, he, hr2, ht, hf⟩ := zRep_ref hR hp (by omega) ha
        obtain ⟨t0, ht0⟩ := zty_mem ht
        obtain ⟨x1, e1, e2⟩ := hf _ _ hcj
        cases e1
        have hlt := (List.getElem?_eq_some_iff.mp hcj).1
        refine va_aldq hx hb hK hP p' t0 he ht0 (zw_in h0 hlt) hd ?_
        refine hk _ _ _ q _ _ _ _ _ _ _ _ _ hL ⟨?_, hst2⟩ hR hpre hK hP hD hS hn hz
        rw [zw_clamp]
        exact e2
    next => cases q
  case iastore =>
    rcases st with _ | ⟨v | v | v, _ | ⟨i | i | i, _ | ⟨a | a | r, st⟩⟩⟩ <;> first | (cases q; done) | skip
    obtain ⟨p', c', rfl, hp, htag, h0, hlt, q⟩ := zst_some q
    obtain ⟨T1, rfl, hst1⟩ := zSt_i hst
    obtain ⟨T2, rfl, hst2⟩ := zSt_i hst1
    obtain ⟨V, T3, rfl, hV, hst3⟩ := zSt_r hst2
    obtain ⟨a, ha, rfl⟩ := hV
    obtain ⟨cA, f, he, ht, hf⟩ := zRep_int hR hp htag ha
    obtain ⟨t0, ht0⟩ := zty_mem ht
    refine va_iast hx hb hK hP hD hS p' t0 he ht0 (zw_in h0 hlt) hd (fun H1 locs1 hP1 hD1 hS1 => ?_)
    refine hk _ _ _ q _ _ _ _ _ _ _ _ _ hL hst3 (zRep_set hR ha (Or.inr (Or.inl ⟨htag, cA, _, by rw [List.length_set], ht, fun j w hw => ?_⟩))) hpre hK hP1 hD1 hS1 (by rw [List.length_set]; exact hn) (by rw [zsz_set h p' c' _ hp (by simp)]; exact hz)
    rw [zw_clamp]
    by_cases hj : j = (zw i).toNat
    · subst hj
      rw [List.getElem?_set_self hlt] at hw
      cases hw
      exact ⟨v, rfl, pk_us⟩
    · rw [List.getElem?_set_ne (Ne.symm hj)] at hw
      obtain ⟨x1, e1, e2⟩ := hf j w hw
      exact ⟨x1, e1, by rw [pk_un hj]; exact e2⟩
  case lastore =>
    rcases st with _ | ⟨v | v | v, _ | ⟨i | i | i, _ | ⟨a | a | r, st⟩⟩⟩ <;> first | (cases q; done) | skip
    obtain ⟨p', c', rfl, hp, htag, h0, hlt, q⟩ := zst_some q
    obtain ⟨T1, rfl, hst1⟩ := zSt_l hst
    obtain ⟨T2, rfl, hst2⟩ := zSt_i hst1
    obtain ⟨V, T3, rfl, hV, hst3⟩ := zSt_r hst2
    obtain ⟨a, ha, rfl⟩ := hV
    obtain ⟨cA, f, he, ht, hf⟩ := zRep_long hR hp htag ha
    obtain ⟨t0, ht0⟩ := zty_mem ht
    refine va_last hx hb hK hP hD hS p' t0 he ht0 (zw_in h0 hlt) hd (fun H1 locs1 hP1 hD1 hS1 => ?_)
    refine hk _ _ _ q _ _ _ _ _ _ _ _ _ hL hst3 (zRep_set hR ha (Or.inr (Or.inr (Or.inl ⟨htag, cA, _, by rw [List.length_set], ht, fun j w hw => ?_⟩)))) hpre hK hP1 hD1 hS1 (by rw [List.length_set]; exact hn) (by rw [zsz_set h p' c' _ hp (by simp)]; exact hz)
    rw [zw_clamp]
    by_cases hj : j = (zw i).toNat
    · subst hj
      rw [List.getElem?_set_self hlt] at hw
      cases hw
      exact ⟨v, rfl, pk_uLs⟩
    · rw [List.getElem?_set_ne (Ne.symm hj)] at hw
      obtain ⟨x1, e1, e2⟩ := hf j w hw
      exact ⟨x1, e1, by rw [pk_uLn hj]; exact e2⟩
  case aastore =>
    obtain ⟨ci, rfl⟩ := ok
    rcases st with _ | ⟨v | v | (_ | _ | v), _ | ⟨i | i | i, _ | ⟨a | a | r, st⟩⟩⟩ <;> first | (cases q; done) | skip
    simp only [zS] at q
    cases hv0 : h[v]? with
    | none => rw [hv0] at q; cases q
    | some cv0 =>
    rw [hv0] at q
    simp only at q
    split at q
    next hci =>
      obtain ⟨p', c', rfl, hp, htag, h0, hlt, q⟩ := zst_some q
      obtain ⟨V, T1, rfl, hV0, hst1⟩ := zSt_r hst
      obtain ⟨T2, rfl, hst2⟩ := zSt_i hst1
      obtain ⟨V, T3, rfl, hV, hst3⟩ := zSt_r hst2
      obtain ⟨a, ha, rfl⟩ := hV
      obtain ⟨av, hav, rfl⟩ := hV0
      obtain ⟨cA, f, r, he, hr2, ht, hf⟩ := zRep_ref hR hp (by omega) ha
      obtain ⟨t0, ht0⟩ := zty_mem ht
      rw [htag, show 102 + ci - 102 = ci by omega] at hr2
      obtain ⟨fs, hve, hfs⟩ := zRep_obj hR hv0 (by rw [hci]; exact (hcl ci r.1 r.2.1 r.2.2 hr2).2.2.2.2.2) hav
      rw [hci] at hve
      refine va_astq hx hb hK hP hD hS p' t0 v ci he ht0 hve hr2 (zw_in h0 hlt) hd (fun H1 locs1 hP1 hD1 hS1 => ?_)
      refine hk _ _ _ q _ _ _ _ _ _ _ _ _ hL hst3 (zRep_set hR ha (Or.inr (Or.inr (Or.inr ⟨by show 102 ≤ c'.1; omega, cA, _, r, by rw [List.length_set], by show cl[c'.1 - 102]? = _; rw [htag, show 102 + ci - 102 = ci by omega]; exact hr2, ht, fun j w hw => ?_⟩)))) hpre hK hP1 hD1 hS1 (by rw [List.length_set]; exact hn) (by rw [zsz_set h p' c' _ hp (by simp)]; exact hz)
      rw [zw_clamp]
      by_cases hj : j = (zw i).toNat
      · subst hj
        rw [List.getElem?_set_self hlt] at hw
        cases hw
        exact ⟨some (v + 1), rfl, av, hav, by simp [va_up, va_rf]⟩
      · rw [List.getElem?_set_ne (Ne.symm hj)] at hw
        obtain ⟨x1, e1, e2⟩ := hf j w hw
        exact ⟨x1, e1, by rw [show va_up f (zw i).toNat (some av) j = f j by simp [va_up, hj]]; exact e2⟩
    next => cases q
  case arraylength =>
    rcases st with _ | ⟨a | a | r, st⟩ <;> first | (cases q; done) | skip
    obtain ⟨V, T, rfl, hV, hst1⟩ := zSt_r hst
    have q : zln xs h r (fun v => k L (.inl v :: st) h) = some res := q
    rcases r with _ | _ | p'
    · cases q
    · obtain ⟨a, ha, rfl⟩ := hV
      have hab : a = b := Option.some.inj (ha.symm.trans (hpre _ _ hb0))
      subst hab
      refine va_slen hx hb hX hbl hbA hS hd ?_
      exact hk _ _ _ q _ _ _ _ _ _ _ _ _ hL ⟨by show _ = _; rw [zofNat], hst1⟩ hR hpre hK hP hD hS hn hz
    · unfold zln at q
      dsimp only at q
      cases hp : h[p']? with
      | none => rw [hp] at q; cases q
      | some c' =>
      rw [hp] at q
      dsimp only at q
      split at q
      next htag =>
        obtain ⟨a, ha, rfl⟩ := hV
        obtain ⟨cA, x, ty, he, ht, hlen⟩ := zRep_arr hR hp htag ha
        obtain ⟨t0, ht0⟩ := zty_mem ht
        refine va_alen hx hb hK hP p' t0 he ht0 (v := Int32.ofInt c'.2.length) (by rw [hlen, zofNat]) hd ?_
        exact hk _ _ _ q _ _ _ _ _ _ _ _ _ hL ⟨rfl, hst1⟩ hR hpre hK hP hD hS hn hz
      next => cases q
  case new i =>
    obtain ⟨ci, ks, rfl, C, T, N, hc, hks, hlink, hdef⟩ := ok
    obtain ⟨hcw, ⟨ty0, hty0⟩, hnm, hinst, hini, hlt⟩ := hcl ci _ _ _ hc
    have q : k L (.inr (.inr (some (h.length + 1))) :: st) (h ++ [(ci, ks.map fun t => match t with | 0 => .inl 0 | 1 => .inr (.inl 0) | _ => .inr (.inr none))]) = some res := q
    obtain ⟨r1, r2⟩ := hr _ _ _ q
    rw [List.length_append] at r1
    rw [zsz_app] at r2
    simp only [List.length_singleton, zsz, List.length_map] at r1 r2
    have hfs : ∀ j, j < N → defaultValue (ty0 j) = vp_V (ks.map zdfv) j := by
      intro j hj
      obtain ⟨kd, hkd⟩ : ∃ kd, ks[j]? = some kd := ⟨_, List.getElem?_eq_getElem (by omega)⟩
      obtain ⟨ty, h1, h2⟩ := hdef j kd hkd
      have h3 : ty0 j = ty := Option.some.inj ((hty0 j hj).symm.trans h1)
      rw [h3]
      have h4 : vp_V (ks.map zdfv) j = zdfv kd := by simp [vp_V, List.getD, hkd]
      rw [h4]
      rcases h2 with ⟨rfl, rfl | rfl⟩ | ⟨rfl, rfl⟩ | ⟨rfl, ⟨n, rfl⟩ | ⟨t, rfl⟩⟩ <;> rfl
    refine va_new hx hb hts hcw ty0 hty0 hown (hts _ hlink) (hts _ hinst) (hts _ hini) hK hP hD hS hA hc hfs (by omega) (by omega) hd (fun qa H1 hP1 hD1 hS1 => ?_)
    refine hk _ _ _ q _ _ _ _ _ _ _ _ _ (zLo_pre (zpre_app _ _) hL) ⟨⟨qa, by rw [← hR.2.1, List.getElem?_append_right (by omega)]; simp, rfl⟩, zSt_pre (zpre_app _ _) hst⟩ (zRep_app hR (fun _ z => z) (Or.inl ⟨hlt, _, rfl, ?_⟩)) (zpre_tr hpre (zpre_app _ _)) hK hP1 hD1 hS1 (by rw [List.length_append]; simp; omega) (by rw [zsz_app]; simp only [zsz, List.length_map]; omega)
    exact zdfv_ok ads ks
  case newarray t =>
    have main : ∀ (n : Int) (st' : List zV) (ty : FieldType) (tag : Nat) (v0 : zV) (a0 : Nat → vp_A), (∀ N', (a0 N').1 = N') → st = .inl n :: st' → newarray.typeOf t = ty → Cond.arrayClass ty ∈ Ts → componentBytes ty ≤ 8 → (∀ (N' : Nat) (cA : ClassId), vp_cell cA (a0 N') = arrV cA N' (fun _ => defaultValue ty)) → (∀ (ads : List Nat) (N' : Nat) (cA : ClassId) (tys : List (ClassId × FieldType)), zCe cl ads (tys ++ [(cA, ty)]) (tag, List.replicate N' v0) (.inl (cA, a0 N'))) → 0 ≤ zw n ∧ zw n ≤ 1000000 → k L (.inr (.inr (some (h.length + 1))) :: st') (h ++ [(tag, List.replicate (zw n).toNat v0)]) = some res → W p l e R s m args below meth c H locs cells slots Q (F0 m pc ls sv) := by
      intro n st' ty tag v0 a0 ha1 hst0 hty harr hcb ha0 hce hn0 q1
      subst hst0
      obtain ⟨T, rfl, hst1⟩ := zSt_i hst
      obtain ⟨r1, r2⟩ := hr _ _ _ q1
      rw [List.length_append] at r1
      rw [zsz_app] at r2
      simp only [List.length_singleton, zsz, List.length_replicate] at r1 r2
      refine va_newa hx hb (by rw [hty]; exact hts _ harr) hty hK hP hD hS hA (ha0 (zw n).toNat) (fun z => by have := (zw_lt0 n).mp z; omega) (zw_clamp n) ?_ (by omega) (by omega) hd (fun qa cA H1 hK1 hP1 hD1 hS1 => ?_)
      · have : (zw n).toNat * componentBytes ty ≤ 1000000 * 8 := Nat.mul_le_mul (by omega) hcb
        omega
      · exact hk _ _ _ q1 _ _ _ _ _ _ _ _ _ (zLo_pre (zpre_app _ _) hL) ⟨⟨qa, by rw [← hR.2.1, List.getElem?_append_right (by omega)]; simp, rfl⟩, zSt_pre (zpre_app _ _) hst1⟩ (zRep_app hR (fun _ z => List.mem_append_left _ z) (hce _ _ _ _)) (zpre_tr hpre (zpre_app _ _)) hK1 hP1 hD1 hS1 (by rw [List.length_append]; simp; omega) (by rw [zsz_app]; simp only [zsz, List.length_replicate]; omega)
    rcases ok with ⟨rfl, rfl, harr⟩ | ⟨rfl, rfl, harr⟩ <;> rcases st with _ | ⟨n | n | n, st⟩ <;> first | (cases q; done) | skip
    · simp only [zS] at q
      split at q
      next hn0 => exact main n st .int 100 (.inl 0) (fun N' => (N', .inl (fun _ => 0))) (fun _ => rfl) rfl rfl harr (by decide) (fun _ _ => rfl) (fun ads N' cA tys => Or.inr (Or.inl ⟨rfl, cA, fun _ => 0, by rw [List.length_replicate], by simp, fun j v hv => ⟨0, by simp [List.getElem?_replicate] at hv; exact hv.2.symm, rfl⟩⟩)) hn0 q
      next => cases q
    · simp only [zS] at q
      split at q
      next hn0 => exact main n st .long 101 (.inr (.inl 0)) (fun N' => (N', .inr (.inl (fun _ => 0)))) (fun _ => rfl) rfl rfl harr (by decide) (fun _ _ => rfl) (fun ads N' cA tys => Or.inr (Or.inr (Or.inl ⟨rfl, cA, fun _ => 0, by rw [List.length_replicate], by simp, fun j v hv => ⟨0, by simp [List.getElem?_replicate] at hv; exact hv.2.symm, rfl⟩⟩))) hn0 q
      next => cases q
  case anewarray i =>
    obtain ⟨ci, C, T, N, rfl, hc, hlink, hov⟩ := ok
    rcases st with _ | ⟨n | n | n, st⟩ <;> first | (cases q; done) | skip
    simp only [zS] at q
    split at q
    next hn0 =>
      obtain ⟨T1, rfl, hst1⟩ := zSt_i hst
      obtain ⟨r1, r2⟩ := hr _ _ _ q
      rw [List.length_append] at r1
      rw [zsz_app] at r2
      simp only [List.length_singleton, zsz, List.length_replicate] at r1 r2
      refine va_newq hx hb hown (hts _ hlink) (va_AO.of (hts _ hov)) hK hP hD hS hA (fun z => by have := (zw_lt0 n).mp z; omega) (zw_clamp n) (by omega) (by omega) (by omega) hd (fun qa cA H1 hK1 hP1 hD1 hS1 => ?_)
      refine hk _ _ _ q _ _ _ _ _ _ _ _ _ (zLo_pre (zpre_app _ _) hL) ⟨⟨qa, by rw [← hR.2.1, List.getElem?_append_right (by omega)]; simp, rfl⟩, zSt_pre (zpre_app _ _) hst1⟩ (zRep_app hR (fun _ z => List.mem_append_left _ z) (Or.inr (Or.inr (Or.inr ⟨by show 102 ≤ 102 + ci; omega, cA, fun _ => none, (C, T, N), by rw [List.length_replicate], by show cl[102 + ci - 102]? = _; rw [show 102 + ci - 102 = ci by omega]; exact hc, by simp, fun j v hv => ⟨none, by simp [List.getElem?_replicate] at hv; exact hv.2.symm, rfl⟩⟩)))) (zpre_tr hpre (zpre_app _ _)) hK1 hP1 hD1 hS1 (by rw [List.length_append]; simp; omega) (by rw [zsz_app]; simp only [zsz, List.length_replicate]; omega)
    next => cases q

  all_goals first
    | (cases q; done)
    | (exfalso; cases q; done)
end ZSIM
end
section
/-! ===== a whole reading is a run of the machine ===== -/
abbrev zM : Type := MethodName × ByteArray × Nat × Option FieldType × Nat × Nat
/-- words that a contract hands on beside the good ones: links of nest mates, arrays over a class -/
def zbad (w : Cond) : Prop := (∃ a i x h, w = .methodLinkNest a i x h) ∨ ∃ C, w = .arrayOver (.object C)
theorem zbad_warm {w : Cond} (h : zbad w) {s U : State} (hW : s.WarmedH U.vm) (hZ : va_Nw w s) : va_Nw w U := by
  rcases h with ⟨a, i, x, h, rfl⟩ | ⟨C, rfl⟩
  · exact va_Nw.warmM hW hZ
  · exact va_AO.moved hW.alike hZ
theorem zbad_same {w : Cond} (h : zbad w) {u U : State} (hvm : u.vm = U.vm) (hZ : va_Nw w u) : va_Nw w U := by
  rcases h with ⟨a, i, x, h, rfl⟩ | ⟨C, rfl⟩
  · exact va_Nw.same rfl hvm hZ
  · exact va_AO.moved (by rw [hvm]; exact Vm.Alike.refl _) hZ
theorem zbad_of {w : Cond} (h : zbad w) {args : Array Value} {s : State} (hZ : w.before args s = true) : va_Nw w s := by
  rcases h with ⟨a, i, x, h, rfl⟩ | ⟨C, rfl⟩
  · exact va_Nw.of rfl hZ
  · exact va_AO.of hZ
theorem zbad_use {w : Cond} (h : zbad w) {args : Array Value} {s : State} (hZ : va_Nw w s) : w.before args s = true := by
  rcases h with ⟨a, i, x, h, rfl⟩ | ⟨C, rfl⟩
  · exact va_Nw.use rfl hZ
  · exact va_AO.use hZ
def zTk (Ts : List Cond) : Prop := ∀ w ∈ Ts, goodWord w = true ∨ zbad w
/-- what is returned -/
def zRet (ads : List Nat) : Option zV → Option Value → Prop
  | none, rv => rv = none
  | some v, rv => ∃ V, rv = some V ∧ zcR ads v V
def zRI (I : Instr) (rt : Option FieldType) (rv : Option Value) : Prop :=
  (I = .ireturn ∧ ∃ v, rv = some (.int v) ∧ (rt = some .int ∨ (rt = some .boolean ∧ (v = 0 ∨ v = 1)))) ∨
  (I = .lreturn ∧ rt = some .long ∧ ∃ v, rv = some (.long v)) ∨
  (I = .areturn ∧ ∃ V, rv = some V ∧ (V = .null ∨ ∃ a, V = .ref a) ∧ ∃ t, rt = some t ∧ ((∃ n, t = .object n) ∨ ∃ t2, t = .array t2)) ∨
  (I = .return_ ∧ rt = none ∧ rv = none)
def zMth (Ts : List Cond) (own : String) (i : Nat) (y : MethodName) (cd : ByteArray) : Prop := Cond.methodLink own i y ∈ Ts ∧ Cond.static y ∈ Ts ∧ Cond.initialized "java/lang/Math" ∈ Ts ∧ Cond.code y cd 2 (some .int) ∈ Ts
/-- what the tables say of a call -/
def zCal (mt : Nat → Option zM) (Ts : List Cond) (fr lo : Nat) (q n mx : Nat) (y : MethodName) (rt : Option FieldType) : Prop := ∃ by' f2 l2, q ≠ 0 ∧ mt q = some (y, by', mx, rt, f2, l2) ∧ f2 + 1 ≤ fr ∧ 8 + (mx + 11) + l2 ≤ lo ∧ (parseMethodDescriptor y.desc).map (fun d => d.parameters.length) = some n
def zIOK (mt : Nat → Option zM) (cl : List vw_C) (Ts : List Cond) (own : String) (ctor : Bool) (nL : Nat) (rt : Option FieldType) (fr lo : Nat) (cc : ByteArray) (pc : Nat) (I : Instr) (x : List Nat) (c : Int) : Prop := match I with
  | .nop => ∃ mm, x = pc :: mm
  | .goto off => decode cc pc = .ok (.goto off, 3) ∧ ∃ t mm, x = t :: mm ∧ (pc : Int) + off = (t : Int)
  | .ifCond cd off => decode cc pc = .ok (.ifCond cd off, 3) ∧ ∃ t mm, x = t :: mm ∧ (pc : Int) + off = (t : Int)
  | .if_icmp cd off => decode cc pc = .ok (.if_icmp cd off, 3) ∧ ∃ t mm, x = t :: mm ∧ (pc : Int) + off = (t : Int)
  | .ifnull off => decode cc pc = .ok (.ifnull off, 3) ∧ ∃ t mm, x = t :: mm ∧ (pc : Int) + off = (t : Int)
  | .ifnonnull off => decode cc pc = .ok (.ifnonnull off, 3) ∧ ∃ t mm, x = t :: mm ∧ (pc : Int) + off = (t : Int)
  | .tableswitch d lo hi offs => ∃ len, decode cc pc = .ok (.tableswitch d lo hi offs, len) ∧ ∃ n dt rest, x = n :: dt :: rest ∧ (pc : Int) + d = (dt : Int) ∧ ∀ (j t : Nat), (rest.drop n)[j]? = some t → ∃ off, offs[j]? = some off ∧ (pc : Int) + off = (t : Int)
  | .ireturn => decode cc pc = .ok (.ireturn, 1) ∧ ((x = [0] ∧ rt = some .int) ∨ (x = [1] ∧ rt = some .boolean))
  | .lreturn => decode cc pc = .ok (.lreturn, 1) ∧ rt = some .long
  | .areturn => decode cc pc = .ok (.areturn, 1) ∧ ∃ t, rt = some t ∧ ((∃ n, t = .object n) ∨ ∃ t2, t = .array t2)
  | .return_ => decode cc pc = .ok (.return_, 1) ∧ rt = none
  | .invokevirtual i => decode cc pc = .ok (.invokevirtual i, 3) ∧ ∃ q n t mx ci y r2 T N, x = [q, n + 1, t, mx, ci] ∧ zCal mt Ts fr lo q n mx y r2 ∧ cl[ci]? = some (y.cls, T, N) ∧ Cond.methodLink own i y ∈ Ts ∧ Cond.instanceMethod y ∈ Ts ∧ Cond.selects y.cls y y ∈ Ts
  | .invokestatic i => decode cc pc = .ok (.invokestatic i, 3) ∧ ((x = [0] ∧ zMth Ts own i Lib.Math.max.name Lib.Math.max.code ∧ 1 ≤ fr ∧ 21 ≤ lo) ∨ (x = [1] ∧ zMth Ts own i Lib.Math.min.name Lib.Math.min.code ∧ 1 ≤ fr ∧ 21 ≤ lo) ∨ ∃ q n t mx y r2, x = [q, n, t, mx] ∧ zCal mt Ts fr lo q n mx y r2 ∧ (Cond.methodLink own i y ∈ Ts ∨ ∃ host, Cond.methodLinkNest own i y host ∈ Ts) ∧ Cond.static y ∈ Ts)
  | .invokespecial i => decode cc pc = .ok (.invokespecial i, 3) ∧ ((x = [] ∧ Cond.methodLink own i Lib.objectInit ∈ Ts ∧ Cond.instanceMethod Lib.objectInit ∈ Ts ∧ Cond.code Lib.objectInit ⟨#[0xb1]⟩ 1 none ∈ Ts ∧ 1 ≤ fr ∧ 20 ≤ lo) ∨ (∃ q n t mx ci y T N, x = [q, n + 1, t, mx, ci] ∧ zCal mt Ts fr lo q n mx y none ∧ cl[ci]? = some (y.cls, T, N) ∧ (Cond.methodLink own i y ∈ Ts ∨ ∃ host, Cond.methodLinkNest own i y host ∈ Ts) ∧ Cond.instanceMethod y ∈ Ts ∧ y.name = "<init>"))
  | I => zOK cl Ts own ctor nL cc pc I x c
def zBK (mt : Nat → Option zM) (cl : List vw_C) (Ts : List Cond) (own : String) (ctor : Bool) (nL : Nat) (rt : Option FieldType) (fr lo : Nat) (cc : ByteArray) : Nat → List zE → Prop
  | _, [] => True
  | pc, (I, x, c) :: t => zIOK mt cl Ts own ctor nL rt fr lo cc pc I x c ∧ zBK mt cl Ts own ctor nL rt fr lo cc (pc + zlen I) t
def zProg (mt : Nat → Option zM) (B : Nat → Nat → Option (List zE)) (cl : List vw_C) (Ts : List Cond) : Prop := zTk Ts ∧ zCl cl Ts ∧ ∀ (M : Nat) (y : MethodName) (by' : ByteArray) (mL : Nat) (rt : Option FieldType) (fr lo : Nat), mt M = some (y, by', mL, rt, fr, lo) → (y.cls ≠ "java/lang/invoke/MethodHandle" ∧ y.cls ≠ "java/lang/invoke/VarHandle") ∧ plainName y.cls = true ∧ (M ≠ 0 → Cond.code y by' mL rt ∈ Ts ∧ Cond.initialized y.cls ∈ Ts) ∧ ∀ (pc : Nat) (b : List zE), B M pc = some b → zBK mt cl Ts y.cls (y.name == "<init>") mL rt fr lo by' pc b
/-- a method's contract, out of a reading -/
def zPc (Ts : List Cond) (cl : List vw_C) (D : va_G) (xs : List Int) (b : Nat) (tys : List (ClassId × FieldType)) (ws : va_W) (sz : Nat) (avs : List Value) : Array Value → State → Prop := va_Pc avs (fun U => U.heap.size = sz ∧ va_P D cl ws U.heap ∧ va_K D cl tys U ∧ va_D (fun _ => True) ws ∧ va_X b xs.length (zxf xs) U U.heap ∧ b < sz ∧ ¬ va_A ws sz b ∧ ∀ w ∈ Ts, zbad w → va_Nw w U)
def zQc (cl : List vw_C) (D : va_G) (ads : List Nat) (ws : va_W) (sz : Nat) (r : zR) : Array Value → State → Outcome → State → Prop := fun _ st oc t =>
  (∃ rv ads' tys' ws', oc = .returned rv ∧ zRet ads' r.1 rv ∧ zRep cl ads' tys' ws' r.2 ∧ zpre ads ads' ∧ va_P D cl ws' t.heap ∧ va_K D cl tys' t ∧ va_D (va_A ws sz) ws') ∧ va_F (va_A ws sz) st t
def zMet (l : Launch) (cl : List vw_C) (Ts : List Cond) (xs : List Int) (y : MethodName) (by' : ByteArray) (mL : Nat) (rt : Option FieldType) (fr lo : Nat) (vs : List zV) (h : zH) (r : zR) : Prop :=
  ∀ (D : va_G) (ads : List Nat) (b : Nat) (tys : List (ClassId × FieldType)) (ws : va_W) (sz : Nat) (avs : List Value), ads[0]? = some b → zRep cl ads tys ws h → zSt ads vs avs → (zargs vs).length ≤ mL →
    Met l y (Cond.code y by' mL rt :: Ts.filter goodWord) { frames := fr, cells := r.2.length - h.length, slots := zsz r.2 - zsz h, locals := lo } (zPc Ts cl D xs b tys ws sz avs) (zQc cl D ads ws sz r) (r.2.length - h.length) (zsz r.2 - zsz h) (va_A ws sz)
theorem zPc_blind {Ts : List Cond} {cl : List vw_C} {D : va_G} {xs : List Int} {b : Nat} {tys : List (ClassId × FieldType)} {ws : va_W} {sz : Nat} {avs : List Value} : FrameBlind (zPc Ts cl D xs b tys ws sz avs) := by
  rintro a U g mk ⟨h1, h2, h3, h4, h5, h6, h7, h8, h9⟩
  exact ⟨h1, h2, h3, va_K.moved (u := U) (U := U.calling g mk a) (Vm.Alike.refl U.vm) h4, h5, va_X.moved (u := U) (U := U.calling g mk a) (Vm.Alike.refl U.vm) h6, h7, h8, fun w hw hb => zbad_same (u := U) (U := U.calling g mk a) hb rfl (h9 w hw hb)⟩
section ZRUN
variable {p : Program} {l : Launch} {e : Env} {R : Room} {s : State} {m : MethodId} {args : Array Value} {below : List Frame} {meth : Method} {c : Code} {Q : State → Prop}
variable {cc : ByteArray} {nL : Nat} {own : String} {D : va_G} {cl : List vw_C} {A : Nat → Prop} {xs : List Int} {ads0 : List Nat} {n0 z0 : Nat} {Ts : List Cond} {ctor : Bool} {rt0 : Option FieldType}
theorem zAfter {H : Heap} {locs : List Loc} {cells slots mc ms : Nat} {pc : Nat} {ls : Array Slot} {sv rest : List Value} {ads : List Nat} {ws : va_W} {r : zR} {avs : Array Value}
    (hr : va_Run p l e R s m args below meth c H locs cells slots mc ms (F0 m pc ls sv) rest (zQc cl D ads ws H.size r avs) (va_A ws H.size)) (hA : ∀ q, s.heap.size ≤ q → A q) (hS : va_S A s.heap H locs) (hD : va_D A ws)
    (kk : ∀ (rv : Option Value) (ads' : List Nat) (tys' : List (ClassId × FieldType)) (ws' : va_W) (H1 : Heap) (locs1 : List Loc), zRet ads' r.1 rv → zRep cl ads' tys' ws' r.2 → zpre ads ads' → va_K D cl tys' s → va_P D cl ws' H1 → va_D A ws' → va_S A s.heap H1 locs1 → W p l e R s m args below meth c H1 locs1 (cells + mc) (slots + ms) Q (F0 m (pc + 3) ls (rv.toList ++ rest))) : W p l e R s m args below meth c H locs cells slots Q (F0 m pc ls sv) := by
  intro T hT X
  obtain ⟨v, st₀, t, T', L, h0, X', hL, e1, e2, ⟨⟨rv, ads', tys', ws', hv, hrv, hR, hp, hP, hK, hD1⟩, hz, hk⟩, st⟩ := hr T hT X
  cases hv
  rw [h0] at hz hk
  have hf : ∀ q, va_A ws H.size q → A q := fun q hq => by
    rcases hq with ⟨k, ee, hq⟩ | hq
    · exact hD.2 k _ hq
    · exact hA q (Nat.le_trans hS.1 hq)
  obtain ⟨t2, a1, b1⟩ := kk v ads' tys' ws' T'.heap (locs ++ L) hrv hR hp (hK.moved (by rw [← e2]; exact X'.warmed.alike.symm)) (by rw [e1]; exact hP) (hD1.weaken (fun k q _ h => hf q.1 h))
    ⟨Nat.le_trans hS.1 (by rw [e1]; exact hz), fun q h1 h2 => by rw [e1, hk q (Nat.lt_of_lt_of_le h1 hS.1) (fun z => h2 (hf q z))]; exact hS.2.1 q h1 h2, fun q hq => by
      rcases List.mem_append.mp hq with h | h
      · exact hS.2.2 q h
      · exact hf _ (hL q h)⟩ T' rfl X'
  exact ⟨t2, st t2 a1, b1⟩
/-- what comes behind a call -/
theorem zY_sim {pc : Nat} {t : Nat} {o : Option zR} {L : zL} {st : List zV} {k : zL → List zV → zH → Option zR} {res : zR}
    (hk : ∀ L' st' h', k L' st' h' = some res → zSim p l e R s m args below meth c Q nL D cl A ads0 n0 z0 (pc + 3) L' st' h') (q : zY t o L st k = some res) :
    ∃ r1, o = some r1 ∧ (∃ st', k L st' r1.2 = some res) ∧ ∀ (ls : Array Slot) (rest : List Value) (rv : Option Value) (H : Heap) (locs : List Loc) (cells slots : Nat) (ads : List Nat) (tys : List (ClassId × FieldType)) (ws : va_W), zRet ads r1.1 rv → zLo ads nL L ls → zSt ads st rest → zRep cl ads tys ws r1.2 → zpre ads0 ads → va_K D cl tys s → va_P D cl ws H → va_D A ws → va_S A s.heap H locs → cells + n0 = r1.2.length → slots + z0 = zsz r1.2 → W p l e R s m args below meth c H locs cells slots Q (F0 m (pc + 3) ls (rv.toList ++ rest)) := by
  cases o with
  | none => rcases t with _ | _ | _ | _ | t <;> cases q
  | some r1 =>
    obtain ⟨v, h1⟩ := r1
    refine ⟨(v, h1), rfl, ?_⟩
    rcases t with _ | _ | _ | _ | t <;> rcases v with _ | v | v | v <;> simp only [zY, zcv, zci, zcl, zcr] at q <;> first
      | (cases q; done)
      | (refine ⟨⟨_, q⟩, fun ls rest rv H locs cells slots ads tys ws hrv hL hst hR hpre hK hP hD hS hn hz => ?_⟩
         cases hrv
         exact hk _ _ _ q _ _ _ _ _ _ _ _ _ hL hst hR hpre hK hP hD hS hn hz)
      | (refine ⟨⟨_, q⟩, fun ls rest rv H locs cells slots ads tys ws hrv hL hst hR hpre hK hP hD hS hn hz => ?_⟩
         obtain ⟨V, rfl, hV⟩ := hrv
         exact hk _ _ _ q _ _ _ _ _ _ _ _ _ hL ⟨hV, hst⟩ hR hpre hK hP hD hS hn hz)
/-- where a method ends -/
def zFin (p : Program) (l : Launch) (e : Env) (R : Room) (s : State) (m : MethodId) (args : Array Value) (below : List Frame) (meth : Method) (c : Code) (Q : State → Prop) (cc : ByteArray) (rt : Option FieldType) (D : va_G) (cl : List vw_C) (A : Nat → Prop) (ads0 : List Nat) (n0 z0 : Nat) (res : zR) : Prop :=
  ∀ (pc : Nat) (I : Instr) (ls : Array Slot) (rv : Option Value) (H : Heap) (locs : List Loc) (cells slots : Nat) (ads : List Nat) (tys : List (ClassId × FieldType)) (ws : va_W), decode cc pc = .ok (I, 1) → zRI I rt rv → zRet ads res.1 rv → zRep cl ads tys ws res.2 → zpre ads0 ads → va_K D cl tys s → va_P D cl ws H → va_D A ws → va_S A s.heap H locs → cells + n0 = res.2.length → slots + z0 = zsz res.2 → W p l e R s m args below meth c H locs cells slots Q (F0 m pc ls rv.toList)
theorem zPre_of {H : Heap} {locs : List Loc} {tys : List (ClassId × FieldType)} {ws : va_W} {b : Nat} {avs : List Value} (hts : ∀ w ∈ Ts, w.before args s = true) (hX : va_X b xs.length (zxf xs) s s.heap) (hbl : b < s.heap.size) (hbA : ¬ A b) (hA : ∀ q, s.heap.size ≤ q → A q) (hK : va_K D cl tys s) (hP : va_P D cl ws H) (hD : va_D A ws) (hS : va_S A s.heap H locs) (U : State) (hU : U.heap = H) (hW : s.WarmedH U.vm) : zPc Ts cl D xs b tys ws H.size avs avs.toArray U := by
  refine ⟨rfl, by rw [hU], by rw [hU]; exact hP, va_K.moved hW.alike hK, hD.weaken (fun _ _ _ _ => trivial), ?_, Nat.lt_of_lt_of_le hbl hS.1, ?_, fun w hw hb => zbad_warm hb hW (zbad_of hb (hts w hw))⟩
  · rw [hU]
    exact va_X.moved hW.alike (hX.kept (hS.2.1 b hbl hbA))
  · rintro (⟨k, ee, hq⟩ | hq)
    · exact hbA (hD.2 k _ hq)
    · exact absurd (Nat.lt_of_lt_of_le hbl hS.1) (by omega)
theorem zck_some {h : zH} {rr : Option Nat} {ci : Nat} {o : Option zR} {res : zR} (q : zck h rr ci o = some res) : ∃ p c, rr = some (p + 1) ∧ h[p]? = some c ∧ c.1 = ci ∧ o = some res := by
  rcases rr with _ | _ | p
  · cases q
  · cases q
  · unfold zck at q
    dsimp only at q
    cases hc : h[p]? with
    | none => rw [hc] at q; cases q
    | some c =>
      rw [hc] at q
      dsimp only at q
      split at q
      next he => exact ⟨p, c, rfl, hc, he, q⟩
      next => cases q
/-- the receiver under a call's arguments -/
theorem zRecv {ads : List Nat} {tys : List (ClassId × FieldType)} {ws : va_W} {st : List zV} {sv : List Value} {h : zH} {n p' : Nat} {c' : Nat × List zV} (hst : zSt ads st sv) (c1 : n + 1 ≤ st.length) (hR : zRep cl ads tys ws h) (e1 : zrcv (st.take (n + 1)).reverse = some (p' + 1)) (e2 : h[p']? = some c') (ht : c'.1 < 100) :
    ∃ a As fs, ads[p' + 1]? = some a ∧ zSt ads (st.take (n + 1)).reverse (.ref a :: As) ∧ zSt ads (st.drop (n + 1)) (sv.drop (n + 1)) ∧ sv = As.reverse ++ .ref a :: sv.drop (n + 1) ∧ As.length = n ∧ ws[p']? = some (a, .inr (c'.1, fs)) := by
  have hst1 : zSt ads (st.take (n + 1)).reverse (sv.take (n + 1)).reverse := zSt_rev (zSt_take (n + 1) hst).1
  have hst2 := (zSt_take (n + 1) hst).2
  have hlen : (sv.take (n + 1)).reverse.length = n + 1 := by rw [List.length_reverse, List.length_take, zSt_len hst]; omega
  have hsv : sv = (sv.take (n + 1)).reverse.reverse ++ sv.drop (n + 1) := by rw [List.reverse_reverse, List.take_append_drop]
  generalize (st.take (n + 1)).reverse = vs at hst1 e1 ⊢
  generalize (sv.take (n + 1)).reverse = avs at hst1 hlen hsv
  rcases vs with _ | ⟨v, vs⟩
  · cases e1
  rcases avs with _ | ⟨V, As⟩
  · exact hst1.elim
  rcases v with v | v | v
  · cases e1
  · cases e1
  · cases e1
    obtain ⟨⟨a, ha, rfl⟩, h2⟩ := hst1
    obtain ⟨fs, he, -⟩ := zRep_obj hR e2 ht ha
    refine ⟨a, As, fs, ha, ⟨⟨a, ha, rfl⟩, h2⟩, hst2, ?_, by simpa using hlen, he⟩
    rw [List.reverse_cons, List.append_assoc] at hsv
    exact hsv
theorem zX_sim {mt : Nat → Option zM} {rec : Nat → Nat → zL → List zV → zH → Option zR} {fr lo : Nat} (hG : zTk Ts) (hMt : ∀ (q : Nat) (y : MethodName) (by' : ByteArray) (mL : Nat) (rt : Option FieldType) (fr lo : Nat), q ≠ 0 → mt q = some (y, by', mL, rt, fr, lo) → (y.cls ≠ "java/lang/invoke/MethodHandle" ∧ y.cls ≠ "java/lang/invoke/VarHandle") ∧ Cond.code y by' mL rt ∈ Ts ∧ Cond.initialized y.cls ∈ Ts)
    (hMet : ∀ (q : Nat) (y : MethodName) (by' : ByteArray) (mL : Nat) (rt : Option FieldType) (fr lo : Nat) (vs : List zV) (h : zH) (r : zR), mt q = some (y, by', mL, rt, fr, lo) → rec q 0 (zargs vs) [] h = some r → zMet l cl Ts xs y by' mL rt fr lo vs h r)
    (hgr : ∀ m pc L st h r, rec m pc L st h = some r → zge h r.2)
    (C0 : zCtx p s m args meth c cc nL own ctor cl A xs ads0 Ts) (hfr : fr ≤ R.frames) (hlo : lo ≤ R.locals) {pc : Nat} {I : Instr} {x : List Nat} {cv : Int} {L : zL} {st : List zV} {h : zH} {k : zL → List zV → zH → Option zR} {res : zR} (ok : zIOK mt cl Ts own ctor nL rt0 fr lo cc pc I x cv)
    (hI : (∃ i, I = .invokevirtual i) ∨ (∃ i, I = .invokestatic i ∧ x ≠ [0] ∧ x ≠ [1]) ∨ ∃ i, I = .invokespecial i ∧ x ≠ [])
    (hk : ∀ L' st' h', k L' st' h' = some res → zSim p l e R s m args below meth c Q nL D cl A ads0 n0 z0 (pc + 3) L' st' h') (hr : ∀ L' st' h', k L' st' h' = some res → h'.length ≤ R.cells + n0 ∧ zsz h' ≤ R.slots + z0)
    (q : zX rec x L st h k = some res) : zSim p l e R s m args below meth c Q nL D cl A ads0 n0 z0 pc L st h := by
  intro ls sv H locs cells slots ads tys ws hL hst hR hpre hK hP hD hS hn hz
  obtain ⟨hx, hb, hml, hts, hown, hA, hcl, hct, b, hb0, hX, hbl, hbA⟩ := C0
  have hb1 := hpre _ _ hb0
  -- the callee's words
  have words : ∀ (y : MethodName) (by' : ByteArray) (mL : Nat) (rt : Option FieldType), Cond.code y by' mL rt ∈ Ts → GoodIn Ts (Cond.code y by' mL rt :: Ts.filter goodWord) := fun y by' mL rt hc w hw => by
    rcases List.mem_cons.mp hw with rfl | hw
    · refine ⟨hc, (hG _ hc).elim good_of_word (fun hb => ?_)⟩
      rcases hb with ⟨a, i, x, h, hb⟩ | ⟨C, hb⟩ <;> cases hb
    · obtain ⟨h1, h2⟩ := List.mem_filter.mp hw
      exact ⟨h1, good_of_word h2⟩
  -- the run of a callee, and what comes behind it
  have go : ∀ (qm n t mx : Nat) (y : MethodName) (rt : Option FieldType) (rest : List Value) (avs : List Value), zSt ads (st.drop n) rest → zSt ads (st.take n).reverse avs → (zargs (st.take n).reverse).length ≤ mx →
      (∀ (by' : ByteArray) (f2 l2 : Nat) (r1 : zR), mt qm = some (y, by', mx, rt, f2, l2) → r1.2.length ≤ R.cells + n0 → zsz r1.2 ≤ R.slots + z0 → zge h r1.2 → zMet l cl Ts xs y by' mx rt f2 l2 (st.take n).reverse h r1 → va_Run p l e R s m args below meth c H locs cells slots (r1.2.length - h.length) (zsz r1.2 - zsz h) (F0 m pc ls sv) rest (zQc cl D ads ws H.size r1 avs.toArray) (va_A ws H.size)) →
      (∃ by' f2 l2, mt qm = some (y, by', mx, rt, f2, l2)) → zY t (rec qm 0 (zargs (st.take n).reverse) [] h) L (st.drop n) k = some res → W p l e R s m args below meth c H locs cells slots Q (F0 m pc ls sv) := by
    intro qm n t mx y rt rest avs hrest havs hlen run ⟨by', f2, l2, hm⟩ qy
    obtain ⟨r1, h1, ⟨st', h2⟩, h3⟩ := zY_sim hk qy
    obtain ⟨g1, g2⟩ := hr _ _ _ h2
    have hge := hgr _ _ _ _ _ _ h1
    have hM := hMet qm y by' mx rt f2 l2 (st.take n).reverse h r1 hm h1
    refine zAfter (run by' f2 l2 r1 hm g1 g2 hge hM) hA hS hD (fun rv ads' tys' ws' H1 locs1 hrv hR1 hp1 hK1 hP1 hD1 hS1 => ?_)
    exact h3 ls rest rv H1 locs1 _ _ ads' tys' ws' hrv (zLo_pre hp1 hL) (zSt_pre hp1 hrest) hR1 (zpre_tr hpre hp1) hK1 hP1 hD1 hS1 (by have := hge.1; omega) (by have := hge.2; omega)
  have cats : ∀ (n : Nat) (rest : List Value), zSt ads (st.drop n) rest → zcs (st.drop n) ≤ 8 → (rest.map fun v => v.category).sum ≤ 8 := fun n rest h1 h2 => by
    rw [zSt_cat h1]
    exact h2
  rcases hI with ⟨i, rfl⟩ | ⟨i, rfl, hx1, hx2⟩ | ⟨i, rfl, hx0⟩
  · obtain ⟨hd, qm, n, t, mx, ci, y, r2, T, N, rfl, ⟨by', f2, l2, hq0, hm, hf1, hl1, hnp⟩, hc, w1, w2, w3⟩ := ok
    obtain ⟨hy, hcode, hini⟩ := hMt qm y by' mx r2 f2 l2 hq0 hm
    simp only [zX] at q
    split at q
    next hcond =>
      obtain ⟨c1, c2, c3⟩ := hcond
      obtain ⟨p', c', e1, e2, e3, q⟩ := zck_some q
      obtain ⟨a, As, fs, ha, hst1, hst2, hsv, hAs, he⟩ := zRecv hst c1 hR e1 e2 (by rw [e3]; exact (hcl ci _ _ _ hc).2.2.2.2.2)
      rw [e3] at he
      refine go qm (n + 1) t mx y r2 (sv.drop (n + 1)) (.ref a :: As) hst2 hst1 c3 (fun by2 f3 l3 r1 hm2 g1 g2 hge hM => ?_) ⟨by', f2, l2, hm⟩ q
      cases hm.symm.trans hm2
      exact va_runV (As := As) (rest := sv.drop (n + 1)) ⟨hx, hb, hml, hown, hts⟩ (hM D ads b tys ws H.size (.ref a :: As) hb1 hR hst1 c3) (C := y.cls)
        ⟨callB_of n hts (words _ _ _ _ hcode) rfl rfl rfl (hts _ hini) (hts _ w1) ⟨hy.1, hy.2, hnp⟩ ⟨by show f2 + 1 ≤ _; omega, by show 8 + (mx + 11) + l2 ≤ _; omega⟩, hts _ w2, hts _ w3⟩
        ⟨zPc_blind, va_recv hK hP hc he, zPre_of hts hX hbl hbA hA hK hP hD hS⟩ rfl hAs hL.1 hsv (lv_room (cats _ _ hst2 c2)) hd ⟨by have := hge.1; omega, by have := hge.2; omega⟩
    next => cases q
  · obtain ⟨hd, ⟨hbad, -⟩ | ⟨hbad, -⟩ | ⟨qm, n, t, mx, y, r2, rfl, ⟨by', f2, l2, hq0, hm, hf1, hl1, hnp⟩, w1, w2⟩⟩ := ok
    · exact absurd hbad hx1
    · exact absurd hbad hx2
    obtain ⟨hy, hcode, hini⟩ := hMt qm y by' mx r2 f2 l2 hq0 hm
    simp only [zX] at q
    split at q
    next hcond =>
      obtain ⟨c1, c2, c3⟩ := hcond
      have hst1 : zSt ads (st.take n).reverse (sv.take n).reverse := zSt_rev (zSt_take n hst).1
      have hst2 := (zSt_take n hst).2
      have hAs : (sv.take n).reverse.length = n := by rw [List.length_reverse, List.length_take, zSt_len hst]; omega
      refine go qm n t mx y r2 (sv.drop n) (sv.take n).reverse hst2 hst1 c3 (fun by2 f3 l3 r1 hm2 g1 g2 hge hM => ?_) ⟨by', f2, l2, hm⟩ q
      cases hm.symm.trans hm2
      have hsv : sv = (sv.take n).reverse.reverse ++ sv.drop n := by rw [List.reverse_reverse, List.take_append_drop]
      rcases w1 with w1 | ⟨host, w1⟩
      · exact va_runS (As := (sv.take n).reverse) (rest := sv.drop n) ⟨hx, hb, hml, hown, hts⟩ (hM D ads b tys ws H.size _ hb1 hR hst1 c3)
          ⟨callB_of n hts (words _ _ _ _ hcode) rfl rfl rfl (hts _ hini) (hts _ w1) ⟨hy.1, hy.2, hnp⟩ ⟨by show f2 + 1 ≤ _; omega, by show 8 + (mx + 11) + l2 ≤ _; omega⟩, hts _ w2⟩
          ⟨zPc_blind, zPre_of hts hX hbl hbA hA hK hP hD hS⟩ rfl hAs hL.1 hsv (lv_room (cats _ _ hst2 c2)) hd ⟨by have := hge.1; omega, by have := hge.2; omega⟩
      · exact va_runSN (As := (sv.take n).reverse) (rest := sv.drop n) ⟨hx, hb, hml, hown, hts⟩ (hM D ads b tys ws H.size _ hb1 hR hst1 c3)
          ⟨va_cnB n hts (words _ _ _ _ hcode) rfl rfl rfl (va_Nw.of rfl (hts _ w1)) (hts _ hini) ⟨hy.1, hy.2, hnp⟩ ⟨by show f2 + 1 ≤ _; omega, by show 8 + (mx + 11) + l2 ≤ _; omega⟩, hts _ w2, trivial⟩
          ⟨zPc_blind, zPre_of hts hX hbl hbA hA hK hP hD hS⟩ rfl hAs hL.1 hsv (lv_room (cats _ _ hst2 c2)) hd ⟨by have := hge.1; omega, by have := hge.2; omega⟩
    next => cases q
  · obtain ⟨hd, ⟨hbad, -⟩ | ⟨qm, n, t, mx, ci, y, T, N, rfl, ⟨by', f2, l2, hq0, hm, hf1, hl1, hnp⟩, hc, w1, w2, w3⟩⟩ := ok
    · exact absurd hbad hx0
    obtain ⟨hy, hcode, hini⟩ := hMt qm y by' mx none f2 l2 hq0 hm
    simp only [zX] at q
    split at q
    next hcond =>
      obtain ⟨c1, c2, c3⟩ := hcond
      obtain ⟨p', c', e1, e2, e3, q⟩ := zck_some q
      obtain ⟨a, As, fs, ha, hst1, hst2, hsv, hAs, he⟩ := zRecv hst c1 hR e1 e2 (by rw [e3]; exact (hcl ci _ _ _ hc).2.2.2.2.2)
      refine go qm (n + 1) t mx y none (sv.drop (n + 1)) (.ref a :: As) hst2 hst1 c3 (fun by2 f3 l3 r1 hm2 g1 g2 hge hM => ?_) ⟨by', f2, l2, hm⟩ q
      cases hm.symm.trans hm2
      rcases w1 with w1 | ⟨host, w1⟩
      · exact va_runI (As := As) (rest := sv.drop (n + 1)) ⟨hx, hb, hml, hown, hts⟩ (hM D ads b tys ws H.size (.ref a :: As) hb1 hR hst1 c3)
          (cwI n hts (words _ _ _ _ hcode) rfl rfl rfl (hts _ hini) (hts _ w1) (hts _ w2) w3 ⟨hy.1, hy.2, hnp⟩ ⟨by show f2 + 1 ≤ _; omega, by show 8 + (mx + 11) + l2 ≤ _; omega⟩)
          ⟨zPc_blind, zPre_of hts hX hbl hbA hA hK hP hD hS⟩ rfl hAs hL.1 hsv (lv_room (cats _ _ hst2 c2)) hd ⟨by have := hge.1; omega, by have := hge.2; omega⟩
      · exact va_runIN (As := As) (rest := sv.drop (n + 1)) ⟨hx, hb, hml, hown, hts⟩ (hM D ads b tys ws H.size (.ref a :: As) hb1 hR hst1 c3)
          ⟨va_cnB n hts (words _ _ _ _ hcode) rfl rfl rfl (va_Nw.of rfl (hts _ w1)) (hts _ hini) ⟨hy.1, hy.2, hnp⟩ ⟨by show f2 + 1 ≤ _; omega, by show 8 + (mx + 11) + l2 ≤ _; omega⟩, w3, hts _ w2⟩
          ⟨zPc_blind, zPre_of hts hX hbl hbA hA hK hP hD hS⟩ rfl hAs hL.1 hsv (lv_room (cats _ _ hst2 c2)) hd ⟨by have := hge.1; omega, by have := hge.2; omega⟩
    next => cases q
theorem zJ_sim {rec : Nat → zL → List zV → zH → Option zR} {res : zR} (hJ : ∀ pc L st h, rec pc L st h = some res → zSim p l e R s m args below meth c Q nL D cl A ads0 n0 z0 pc L st h) {t : Nat} {mm : List Nat} {L : zL} {st : List zV} {h : zH} (q : zJ rec (t :: mm) L st h = some res) : zSim p l e R s m args below meth c Q nL D cl A ads0 n0 z0 t L st h := by
  intro ls sv H locs cells slots ads tys ws hL hst hR hpre hK hP hD hS hn hz
  exact hJ _ _ _ _ q _ _ _ _ _ _ _ _ _ (zLo_keep hL mm) hst hR hpre hK hP hD hS hn hz
theorem zI_sim {mt : Nat → Option zM} {rec : Nat → Nat → zL → List zV → zH → Option zR} {M fr lo : Nat} (hG : zTk Ts) (hMt : ∀ (q : Nat) (y : MethodName) (by' : ByteArray) (mL : Nat) (rt : Option FieldType) (fr lo : Nat), q ≠ 0 → mt q = some (y, by', mL, rt, fr, lo) → (y.cls ≠ "java/lang/invoke/MethodHandle" ∧ y.cls ≠ "java/lang/invoke/VarHandle") ∧ Cond.code y by' mL rt ∈ Ts ∧ Cond.initialized y.cls ∈ Ts)
    (hMet : ∀ (q : Nat) (y : MethodName) (by' : ByteArray) (mL : Nat) (rt : Option FieldType) (fr lo : Nat) (vs : List zV) (h : zH) (r : zR), mt q = some (y, by', mL, rt, fr, lo) → rec q 0 (zargs vs) [] h = some r → zMet l cl Ts xs y by' mL rt fr lo vs h r)
    (hgr : ∀ m pc L st h r, rec m pc L st h = some r → zge h r.2)
    (C0 : zCtx p s m args meth c cc nL own ctor cl A xs ads0 Ts) (hfr : fr ≤ R.frames) (hlo : lo ≤ R.locals) {res : zR} (hJ : ∀ pc L st h, rec M pc L st h = some res → zSim p l e R s m args below meth c Q nL D cl A ads0 n0 z0 pc L st h) (hF : zFin p l e R s m args below meth c Q cc rt0 D cl A ads0 n0 z0 res)
    {pc : Nat} {I : Instr} {x : List Nat} {cv : Int} {L : zL} {st : List zV} {h : zH} {k : zL → List zV → zH → Option zR} (ok : zIOK mt cl Ts own ctor nL rt0 fr lo cc pc I x cv)
    (hk : ∀ L' st' h', k L' st' h' = some res → zSim p l e R s m args below meth c Q nL D cl A ads0 n0 z0 (pc + zlen I) L' st' h') (hr : ∀ L' st' h', k L' st' h' = some res → h'.length ≤ R.cells + n0 ∧ zsz h' ≤ R.slots + z0)
    (q : zI xs rec M I x cv L st h k = some res) : zSim p l e R s m args below meth c Q nL D cl A ads0 n0 z0 pc L st h := by
  obtain ⟨J, hJ0⟩ : ∃ J, J = I := ⟨I, rfl⟩
  cases I
  case nop =>
    obtain ⟨mm, rfl⟩ := ok
    exact zJ_sim hJ q
  case goto off =>
    obtain ⟨hd, t, mm, rfl, ht⟩ := ok
    obtain ⟨hx, hb, -⟩ := C0
    intro ls sv H locs cells slots ads tys ws hL hst hR hpre hK hP hD hS hn hz
    exact lv_goto hx hb hd ht (zJ_sim hJ q _ _ _ _ _ _ _ _ _ hL hst hR hpre hK hP hD hS hn hz)
  case ifCond cnd off =>
    obtain ⟨hd, t, mm, rfl, ht⟩ := ok
    obtain ⟨hx, hb, -⟩ := C0
    intro ls sv H locs cells slots ads tys ws hL hst hR hpre hK hP hD hS hn hz
    cases cnd <;> rcases st with _ | ⟨a | a | a, st⟩ <;> first | (cases q; done) | skip
    all_goals
      obtain ⟨T1, rfl, hst1⟩ := zSt_i hst
      simp only [zI] at q
    · exact lv_if_eq hx hb hd ht (fun z => by rw [if_pos ((zw_eq0 a).mp z)] at q; exact zJ_sim hJ q _ _ _ _ _ _ _ _ _ hL hst1 hR hpre hK hP hD hS hn hz) (fun z => by rw [if_neg (fun z' => z ((zw_eq0 a).mpr z'))] at q; exact hk _ _ _ q _ _ _ _ _ _ _ _ _ hL hst1 hR hpre hK hP hD hS hn hz)
    · exact lv_if_ne hx hb hd ht (fun z => by rw [if_pos (fun z' => z ((zw_eq0 a).mpr z'))] at q; exact zJ_sim hJ q _ _ _ _ _ _ _ _ _ hL hst1 hR hpre hK hP hD hS hn hz) (fun z => by rw [if_neg (fun z' => z' ((zw_eq0 a).mp z))] at q; exact hk _ _ _ q _ _ _ _ _ _ _ _ _ hL hst1 hR hpre hK hP hD hS hn hz)
    · exact lv_if_lt hx hb hd ht (fun z => by rw [if_pos ((zw_lt0 a).mp z)] at q; exact zJ_sim hJ q _ _ _ _ _ _ _ _ _ hL hst1 hR hpre hK hP hD hS hn hz) (fun z => by rw [if_neg (fun z' => z ((zw_lt0 a).mpr z'))] at q; exact hk _ _ _ q _ _ _ _ _ _ _ _ _ hL hst1 hR hpre hK hP hD hS hn hz)
    · exact lv_if_ge hx hb hd ht (fun z => by rw [if_pos ((zw_ge0 a).mp z)] at q; exact zJ_sim hJ q _ _ _ _ _ _ _ _ _ hL hst1 hR hpre hK hP hD hS hn hz) (fun z => by rw [if_neg (fun z' => z ((zw_ge0 a).mpr z'))] at q; exact hk _ _ _ q _ _ _ _ _ _ _ _ _ hL hst1 hR hpre hK hP hD hS hn hz)
    · exact lv_if_gt hx hb hd ht (fun z => by rw [if_pos ((zw_gt0 a).mp z)] at q; exact zJ_sim hJ q _ _ _ _ _ _ _ _ _ hL hst1 hR hpre hK hP hD hS hn hz) (fun z => by rw [if_neg (fun z' => z ((zw_gt0 a).mpr z'))] at q; exact hk _ _ _ q _ _ _ _ _ _ _ _ _ hL hst1 hR hpre hK hP hD hS hn hz)
    · exact lv_if_le hx hb hd ht (fun z => by rw [if_pos ((zw_le0 a).mp z)] at q; exact zJ_sim hJ q _ _ _ _ _ _ _ _ _ hL hst1 hR hpre hK hP hD hS hn hz) (fun z => by rw [if_neg (fun z' => z ((zw_le0 a).mpr z'))] at q; exact hk _ _ _ q _ _ _ _ _ _ _ _ _ hL hst1 hR hpre hK hP hD hS hn hz)
  case if_icmp cnd off =>
    obtain ⟨hd, t, mm, rfl, ht⟩ := ok
    obtain ⟨hx, hb, -⟩ := C0
    intro ls sv H locs cells slots ads tys ws hL hst hR hpre hK hP hD hS hn hz
    cases cnd <;> rcases st with _ | ⟨b | b | b, _ | ⟨a | a | a, st⟩⟩ <;> first | (cases q; done) | skip
    all_goals
      obtain ⟨T1, rfl, hst1⟩ := zSt_i hst
      obtain ⟨T2, rfl, hst2⟩ := zSt_i hst1
      simp only [zI] at q
    · exact lv_icmp_eq hx hb hd ht (fun z => by rw [if_pos ((zw_eq a b).mp z)] at q; exact zJ_sim hJ q _ _ _ _ _ _ _ _ _ hL hst2 hR hpre hK hP hD hS hn hz) (fun z => by rw [if_neg (fun z' => z ((zw_eq a b).mpr z'))] at q; exact hk _ _ _ q _ _ _ _ _ _ _ _ _ hL hst2 hR hpre hK hP hD hS hn hz)
    · exact lv_icmp_ne hx hb hd ht (fun z => by rw [if_pos (fun z' => z ((zw_eq a b).mpr z'))] at q; exact zJ_sim hJ q _ _ _ _ _ _ _ _ _ hL hst2 hR hpre hK hP hD hS hn hz) (fun z => by rw [if_neg (fun z' => z' ((zw_eq a b).mp z))] at q; exact hk _ _ _ q _ _ _ _ _ _ _ _ _ hL hst2 hR hpre hK hP hD hS hn hz)
    · exact lv_icmp_lt hx hb hd ht (fun z => by rw [if_pos ((zw_lt a b).mp z)] at q; exact zJ_sim hJ q _ _ _ _ _ _ _ _ _ hL hst2 hR hpre hK hP hD hS hn hz) (fun z => by rw [if_neg (fun z' => z ((zw_lt a b).mpr z'))] at q; exact hk _ _ _ q _ _ _ _ _ _ _ _ _ hL hst2 hR hpre hK hP hD hS hn hz)
    · exact lv_icmp_ge hx hb hd ht (fun z => by rw [if_pos ((zw_le b a).mp z)] at q; exact zJ_sim hJ q _ _ _ _ _ _ _ _ _ hL hst2 hR hpre hK hP hD hS hn hz) (fun z => by rw [if_neg (fun z' => z ((zw_le b a).mpr z'))] at q; exact hk _ _ _ q _ _ _ _ _ _ _ _ _ hL hst2 hR hpre hK hP hD hS hn hz)
    · exact lv_icmp_gt hx hb hd ht (fun z => by rw [if_pos ((zw_lt b a).mp z)] at q; exact zJ_sim hJ q _ _ _ _ _ _ _ _ _ hL hst2 hR hpre hK hP hD hS hn hz) (fun z => by rw [if_neg (fun z' => z ((zw_lt b a).mpr z'))] at q; exact hk _ _ _ q _ _ _ _ _ _ _ _ _ hL hst2 hR hpre hK hP hD hS hn hz)
    · exact lv_icmp_le hx hb hd ht (fun z => by rw [if_pos ((zw_le a b).mp z)] at q; exact zJ_sim hJ q _ _ _ _ _ _ _ _ _ hL hst2 hR hpre hK hP hD hS hn hz) (fun z => by rw [if_neg (fun z' => z ((zw_le a b).mpr z'))] at q; exact hk _ _ _ q _ _ _ _ _ _ _ _ _ hL hst2 hR hpre hK hP hD hS hn hz)
  case ifnull off =>
    obtain ⟨hd, t, mm, rfl, ht⟩ := ok
    obtain ⟨hx, hb, -⟩ := C0
    intro ls sv H locs cells slots ads tys ws hL hst hR hpre hK hP hD hS hn hz
    rcases st with _ | ⟨a | a | (_ | a), st⟩ <;> first | (cases q; done) | skip
    · obtain ⟨V, T1, rfl, hV, hst1⟩ := zSt_r hst
      cases hV
      exact lv_ifnullN hx hb hd ht (zJ_sim hJ q _ _ _ _ _ _ _ _ _ hL hst1 hR hpre hK hP hD hS hn hz)
    · obtain ⟨V, T1, rfl, hV, hst1⟩ := zSt_r hst
      obtain ⟨a1, -, rfl⟩ := hV
      exact lv_ifnull hx hb hd (hk _ _ _ q _ _ _ _ _ _ _ _ _ hL hst1 hR hpre hK hP hD hS hn hz)
  case ifnonnull off =>
    obtain ⟨hd, t, mm, rfl, ht⟩ := ok
    obtain ⟨hx, hb, -⟩ := C0
    intro ls sv H locs cells slots ads tys ws hL hst hR hpre hK hP hD hS hn hz
    rcases st with _ | ⟨a | a | (_ | a), st⟩ <;> first | (cases q; done) | skip
    · obtain ⟨V, T1, rfl, hV, hst1⟩ := zSt_r hst
      cases hV
      exact lv_ifnonnullN hx hb hd (hk _ _ _ q _ _ _ _ _ _ _ _ _ hL hst1 hR hpre hK hP hD hS hn hz)
    · obtain ⟨V, T1, rfl, hV, hst1⟩ := zSt_r hst
      obtain ⟨a1, -, rfl⟩ := hV
      exact lv_ifnonnull hx hb hd ht (zJ_sim hJ q _ _ _ _ _ _ _ _ _ hL hst1 hR hpre hK hP hD hS hn hz)
  case tableswitch d2 lo2 hi2 offs =>
    obtain ⟨len, hd, n, dt, rest, rfl, hdt, htg⟩ := ok
    obtain ⟨hx, hb, -⟩ := C0
    intro ls sv H locs cells slots ads tys ws hL hst hR hpre hK hP hD hS hn hz
    rcases st with _ | ⟨a | a | a, st⟩ <;> first | (cases q; done) | skip
    obtain ⟨T1, rfl, hst1⟩ := zSt_i hst
    simp only [zI] at q
    split at q
    next hc => exact lv_tableOut hx hb hd (by rw [zw_toInt]; exact hc) hdt (hJ _ _ _ _ q _ _ _ _ _ _ _ _ _ (zLo_keep hL _) hst1 hR hpre hK hP hD hS hn hz)
    next hc =>
      cases htt : (rest.drop n)[(zw a - lo2).toNat]? with
      | none => rw [htt] at q; cases q
      | some t =>
        rw [htt] at q
        obtain ⟨off, ho1, ho2⟩ := htg _ _ htt
        exact lv_tableIn hx hb hd (by rw [zw_toInt]; omega) (by rw [zw_toInt]; omega) (by rw [zw_toInt]; exact ho1) ho2 (hJ _ _ _ _ q _ _ _ _ _ _ _ _ _ (zLo_keep hL _) hst1 hR hpre hK hP hD hS hn hz)
  case ireturn =>
    obtain ⟨hd, ⟨rfl, hrt⟩ | ⟨rfl, hrt⟩⟩ := ok
    · intro ls sv H locs cells slots ads tys ws hL hst hR hpre hK hP hD hS hn hz
      rcases st with _ | ⟨a | a | a, _ | ⟨b, st⟩⟩ <;> first | (cases q; done) | skip
      cases q
      obtain ⟨T1, rfl, hst1⟩ := zSt_i hst
      rcases T1 with _ | ⟨V, T1⟩
      · exact hF pc _ ls (some (.int (Int32.ofInt a))) H locs cells slots ads tys ws hd (Or.inl ⟨rfl, _, rfl, Or.inl hrt⟩) ⟨_, rfl, rfl⟩ hR hpre hK hP hD hS hn hz
      · exact hst1.elim
    · intro ls sv H locs cells slots ads tys ws hL hst hR hpre hK hP hD hS hn hz
      rcases st with _ | ⟨a | a | a, _ | ⟨b, st⟩⟩ <;> first | (cases q; done) | skip
      simp only [zI] at q
      split at q
      next h01 =>
        cases q
        obtain ⟨T1, rfl, hst1⟩ := zSt_i hst
        rcases T1 with _ | ⟨V, T1⟩
        · exact hF pc _ ls (some (.int (Int32.ofInt a))) H locs cells slots ads tys ws hd (Or.inl ⟨rfl, _, rfl, Or.inr ⟨hrt, by rcases h01 with rfl | rfl; exact Or.inl rfl; exact Or.inr rfl⟩⟩) ⟨_, rfl, rfl⟩ hR hpre hK hP hD hS hn hz
        · exact hst1.elim
      next => cases q
  case lreturn =>
    obtain ⟨hd, hrt⟩ := ok
    intro ls sv H locs cells slots ads tys ws hL hst hR hpre hK hP hD hS hn hz
    rcases st with _ | ⟨a | a | a, _ | ⟨b, st⟩⟩ <;> first | (cases q; done) | skip
    cases q
    obtain ⟨T1, rfl, hst1⟩ := zSt_l hst
    rcases T1 with _ | ⟨V, T1⟩
    · exact hF pc _ ls (some (.long (Int64.ofInt a))) H locs cells slots ads tys ws hd (Or.inr (Or.inl ⟨rfl, hrt, _, rfl⟩)) ⟨_, rfl, rfl⟩ hR hpre hK hP hD hS hn hz
    · exact hst1.elim
  case areturn =>
    obtain ⟨hd, t, hrt, hkt⟩ := ok
    intro ls sv H locs cells slots ads tys ws hL hst hR hpre hK hP hD hS hn hz
    rcases st with _ | ⟨a | a | a, _ | ⟨b, st⟩⟩ <;> first | (cases q; done) | skip
    cases q
    obtain ⟨V, T1, rfl, hV, hst1⟩ := zSt_r hst
    rcases T1 with _ | ⟨V2, T1⟩
    · refine hF pc _ ls (some V) H locs cells slots ads tys ws hd (Or.inr (Or.inr (Or.inl ⟨rfl, V, rfl, ?_, t, hrt, hkt⟩))) ⟨_, rfl, hV⟩ hR hpre hK hP hD hS hn hz
      rcases a with _ | a
      · exact Or.inl hV
      · obtain ⟨a1, -, h2⟩ := hV
        exact Or.inr ⟨a1, h2⟩
    · exact hst1.elim
  case return_ =>
    obtain ⟨hd, hrt⟩ := ok
    intro ls sv H locs cells slots ads tys ws hL hst hR hpre hK hP hD hS hn hz
    rcases st with _ | ⟨a, st⟩ <;> first | (cases q; done) | skip
    cases q
    rcases sv with _ | ⟨V, sv⟩
    · exact hF pc _ ls none H locs cells slots ads tys ws hd (Or.inr (Or.inr (Or.inr ⟨rfl, hrt, rfl⟩))) rfl hR hpre hK hP hD hS hn hz
    · exact hst.elim
  case invokevirtual i => exact zX_sim hG hMt hMet hgr C0 hfr hlo ok (Or.inl ⟨i, rfl⟩) hk hr q
  case invokestatic i =>
    have main : ∀ (a b : Int) (st' : List zV) (v : Int), st = .inl b :: .inl a :: st' → zcs st' ≤ 8 → k L (.inl v :: st') h = some res → 1 ≤ fr → 21 ≤ lo → (∀ (ls : Array Slot) (sv : List Value) (H : Heap) (locs : List Loc) (cells slots : Nat), ls.size = nL → (sv.map fun v => v.category).sum + 13 ≤ R.locals → 1 ≤ R.frames → cells ≤ R.cells → slots ≤ R.slots → W p l e R s m args below meth c H locs cells slots Q (F0 m (pc + 3) ls (.int (Int32.ofInt v) :: sv)) → W p l e R s m args below meth c H locs cells slots Q (F0 m pc ls (.int (Int32.ofInt b) :: .int (Int32.ofInt a) :: sv))) → zSim p l e R s m args below meth c Q nL D cl A ads0 n0 z0 pc L st h := by
      intro a b st' v hst0 hlen q' hf1 hl1 row ls sv H locs cells slots ads tys ws hL hst hR hpre hK hP hD hS hn hz
      subst hst0
      obtain ⟨T1, rfl, hst1⟩ := zSt_i hst
      obtain ⟨T2, rfl, hst2⟩ := zSt_i hst1
      obtain ⟨r1, r2⟩ := hr _ _ _ q'
      have hc := zSt_cat hst2
      exact row ls T2 H locs cells slots hL.1 (by omega) (by omega) (by omega) (by omega) (hk _ _ _ q' _ _ _ _ _ _ _ _ _ hL ⟨rfl, hst2⟩ hR hpre hK hP hD hS hn hz)
    by_cases hx1 : x = [0]
    · subst hx1
      obtain ⟨hd, ⟨-, ⟨w1, w2, w3, w4⟩, hf1, hl1⟩ | ⟨hbad, -⟩ | ⟨_, _, _, _, _, _, hbad, -⟩⟩ := ok
      · obtain ⟨hx, hb, hml, hts, hown, -⟩ := C0
        rcases st with _ | ⟨b | b | b, _ | ⟨a | a | a, st⟩⟩ <;> first | (cases q; done) | skip
        simp only [zI] at q
        split at q
        next hlen =>
          refine main a b st _ rfl hlen q hf1 hl1 (fun ls sv H locs cells slots z1 z2 z3 z4 z5 kk => va_mmax hx hb (by rw [hml]; exact z1.symm) hown (hts _ w1) (hts _ w2) (hts _ w3) (hts _ w4) z3 z2 z4 z5 hd ?_)
          by_cases hlt : zw a < zw b
          · rw [if_pos hlt] at kk
            rw [if_pos ((zw_lt a b).mpr hlt)]
            exact kk
          · rw [if_neg hlt] at kk
            rw [if_neg (fun z => hlt ((zw_lt a b).mp z))]
            exact kk
        next => cases q
      · cases hbad
      · cases hbad
    by_cases hx2 : x = [1]
    · subst hx2
      obtain ⟨hd, ⟨hbad, -⟩ | ⟨-, ⟨w1, w2, w3, w4⟩, hf1, hl1⟩ | ⟨_, _, _, _, _, _, hbad, -⟩⟩ := ok
      · cases hbad
      · obtain ⟨hx, hb, hml, hts, hown, -⟩ := C0
        rcases st with _ | ⟨b | b | b, _ | ⟨a | a | a, st⟩⟩ <;> first | (cases q; done) | skip
        simp only [zI] at q
        split at q
        next hlen =>
          refine main a b st _ rfl hlen q hf1 hl1 (fun ls sv H locs cells slots z1 z2 z3 z4 z5 kk => va_mmin hx hb (by rw [hml]; exact z1.symm) hown (hts _ w1) (hts _ w2) (hts _ w3) (hts _ w4) z3 z2 z4 z5 hd ?_)
          by_cases hlt : zw b < zw a
          · rw [if_pos hlt] at kk
            rw [if_pos ((zw_lt b a).mpr hlt)]
            exact kk
          · rw [if_neg hlt] at kk
            rw [if_neg (fun z => hlt ((zw_lt b a).mp z))]
            exact kk
        next => cases q
      · cases hbad
    have q' : zX rec x L st h k = some res := by
      rcases x with _ | ⟨_ | _ | t, _ | ⟨t2, x⟩⟩ <;> first | exact q | exact absurd rfl hx1 | exact absurd rfl hx2
    exact zX_sim hG hMt hMet hgr C0 hfr hlo ok (Or.inr (Or.inl ⟨i, rfl, hx1, hx2⟩)) hk hr q'
  case invokespecial i =>
    rcases x with _ | ⟨x1, x⟩
    · rcases st with _ | ⟨a | a | (_ | a), _ | ⟨b, st⟩⟩ <;> first | (cases q; done) | skip
      obtain ⟨hd, ⟨-, w1, w2, w3, hf1, hl1⟩ | ⟨_, _, _, _, _, _, _, _, hbad, -⟩⟩ := ok
      · obtain ⟨hx, hb, hml, hts, hown, -⟩ := C0
        intro ls sv H locs cells slots ads tys ws hL hst hR hpre hK hP hD hS hn hz
        obtain ⟨V, T1, rfl, hV, hst1⟩ := zSt_r hst
        obtain ⟨a1, -, rfl⟩ := hV
        rcases T1 with _ | ⟨V2, T1⟩
        · refine W.objInit hx hb hown (hts _ w1) (hts _ w2) (hts _ w3) rfl (by rw [hml]; exact hL.1) rfl hd (by omega) ?_ ?_
          · have := lv_room (m := m) (pc := pc) (ls := ls) (rest := [Value.ref a1]) (st := []) (by simp)
            simp only [List.map_nil, List.sum_nil] at this ⊢
            omega
          · exact hk _ _ _ q _ _ _ _ _ _ _ _ _ hL hst1 hR hpre hK hP hD hS hn hz
        · exact hst1.elim
      · cases hbad
    · exact zX_sim hG hMt hMet hgr C0 hfr hlo ok (Or.inr (Or.inr ⟨i, rfl, by simp⟩)) hk hr q
  all_goals exact zS_arith (x := x) (cv := cv) (L := L) (st := st) (h := h) (k := k) C0 ok hk hr q
end ZRUN
theorem zB_sim {p : Program} {l : Launch} {e : Env} {R : Room} {s : State} {m : MethodId} {args : Array Value} {below : List Frame} {meth : Method} {c : Code} {Q : State → Prop} {cc : ByteArray} {nL : Nat} {own : String} {D : va_G} {cl : List vw_C} {A : Nat → Prop} {xs : List Int} {ads0 : List Nat} {n0 z0 : Nat} {Ts : List Cond} {ctor : Bool} {rt0 : Option FieldType}
    {mt : Nat → Option zM} {rec : Nat → Nat → zL → List zV → zH → Option zR} {M fr lo : Nat} (hG : zTk Ts) (hMt : ∀ (q : Nat) (y : MethodName) (by' : ByteArray) (mL : Nat) (rt : Option FieldType) (fr lo : Nat), q ≠ 0 → mt q = some (y, by', mL, rt, fr, lo) → (y.cls ≠ "java/lang/invoke/MethodHandle" ∧ y.cls ≠ "java/lang/invoke/VarHandle") ∧ Cond.code y by' mL rt ∈ Ts ∧ Cond.initialized y.cls ∈ Ts)
    (hMet : ∀ (q : Nat) (y : MethodName) (by' : ByteArray) (mL : Nat) (rt : Option FieldType) (fr lo : Nat) (vs : List zV) (h : zH) (r : zR), mt q = some (y, by', mL, rt, fr, lo) → rec q 0 (zargs vs) [] h = some r → zMet l cl Ts xs y by' mL rt fr lo vs h r)
    (hgr : ∀ m pc L st h r, rec m pc L st h = some r → zge h r.2)
    (C0 : zCtx p s m args meth c cc nL own ctor cl A xs ads0 Ts) (hfr : fr ≤ R.frames) (hlo : lo ≤ R.locals) {res : zR} (hroom : res.2.length ≤ R.cells + n0 ∧ zsz res.2 ≤ R.slots + z0) (hJ : ∀ pc L st h, rec M pc L st h = some res → zSim p l e R s m args below meth c Q nL D cl A ads0 n0 z0 pc L st h) (hF : zFin p l e R s m args below meth c Q cc rt0 D cl A ads0 n0 z0 res) :
    ∀ (b : List zE) (pc : Nat) (L : zL) (st : List zV) (h : zH), zBK mt cl Ts own ctor nL rt0 fr lo cc pc b → zB xs rec M b L st h = some res → zSim p l e R s m args below meth c Q nL D cl A ads0 n0 z0 pc L st h
  | [], pc, L, st, h, _, q => by cases q
  | (I, x, cv) :: t, pc, L, st, h, ok, q => zI_sim hG hMt hMet hgr C0 hfr hlo hJ hF ok.1 (fun L' st' h' q' => zB_sim hG hMt hMet hgr C0 hfr hlo hroom hJ hF t _ L' st' h' ok.2 q') (fun L' st' h' q' => by
      have := zgrow_B xs rec hgr M res t L' st' h' q'
      exact ⟨Nat.le_trans this.1 hroom.1, Nat.le_trans this.2 hroom.2⟩) q
def zGood (mt : Nat → Option zM) (B : Nat → Nat → Option (List zE)) (cl : List vw_C) (Ts : List Cond) (xs : List Int) (n : Nat) : Prop := ∀ (M : Nat) (y : MethodName) (by' : ByteArray) (mL : Nat) (rt : Option FieldType) (fr lo : Nat), mt M = some (y, by', mL, rt, fr, lo) →
  ∀ (p : Program) (l : Launch) (e : Env) (R : Room) (s : State) (m : MethodId) (args : Array Value) (below : List Frame) (meth : Method) (c : Code) (Q : State → Prop) (D : va_G) (A : Nat → Prop) (ads0 : List Nat) (n0 z0 : Nat) (res : zR), zCtx p s m args meth c by' mL y.cls (y.name == "<init>") cl A xs ads0 Ts → fr ≤ R.frames → lo ≤ R.locals → zFin p l e R s m args below meth c Q by' rt D cl A ads0 n0 z0 res → (res.2.length ≤ R.cells + n0 ∧ zsz res.2 ≤ R.slots + z0) →
  ∀ (pc : Nat) (L : zL) (st : List zV) (h : zH), zrun B xs n M pc L st h = some res → zSim p l e R s m args below meth c Q mL D cl A ads0 n0 z0 pc L st h
theorem zargs_lg {ads : List Nat} : ∀ {vs : List zV} {avs : List Value}, zSt ads vs avs → (lg_sl avs).length = (zargs vs).length
  | [], [], _ => rfl
  | .inl x :: t, V :: T, h => by
    have h1 := zargs_lg h.2
    have h2 := zcR_cat h.1
    simp [lg_sl, h2, zcat, zargs] at h1 ⊢
    exact h1
  | .inr (.inl x) :: t, V :: T, h => by
    have h1 := zargs_lg h.2
    have h2 := zcR_cat h.1
    simp [lg_sl, h2, zcat, zargs] at h1 ⊢
    omega
  | .inr (.inr x) :: t, V :: T, h => by
    have h1 := zargs_lg h.2
    have h2 := zcR_cat h.1
    simp [lg_sl, h2, zcat, zargs] at h1 ⊢
    exact h1
  | [], _ :: _, h => h.elim
  | _ :: _, [], h => h.elim
theorem zargs_lv {ads : List Nat} : ∀ (vs : List zV) (avs : List Value) (k : Nat), zSt ads vs avs → ∀ (i : Nat) (v : zV), (zargs vs)[i]? = some (some v) → ∃ V, (k + i, V) ∈ lv_args k avs ∧ zcR ads v V
  | [], [], k, _, i, v, h => by simp [zargs] at h
  | [], _ :: _, k, hh, i, v, h => hh.elim
  | _ :: _, [], k, hh, i, v, h => hh.elim
  | w :: t, V :: T, k, hh, i, v, h => by
    have h2 := zcR_cat hh.1
    rcases w with w | w | w
    · rcases i with _ | i
      · simp [zargs] at h
        subst h
        exact ⟨V, by simp [lv_args], hh.1⟩
      · simp [zargs] at h
        obtain ⟨V2, e1, e2⟩ := zargs_lv t T (k + 1) hh.2 i v h
        exact ⟨V2, by simp [lv_args, h2, zcat]; rw [show k + (i + 1) = k + 1 + i by omega]; exact e1, e2⟩
    · rcases i with _ | _ | i
      · simp [zargs] at h
        subst h
        exact ⟨V, by simp [lv_args], hh.1⟩
      · simp [zargs] at h
      · simp [zargs] at h
        obtain ⟨V2, e1, e2⟩ := zargs_lv t T (k + 2) hh.2 i v h
        exact ⟨V2, by simp [lv_args, h2, zcat]; rw [show k + (i + 1 + 1) = k + 2 + i by omega]; exact e1, e2⟩
    · rcases i with _ | i
      · simp [zargs] at h
        subst h
        exact ⟨V, by simp [lv_args], hh.1⟩
      · simp [zargs] at h
        obtain ⟨V2, e1, e2⟩ := zargs_lv t T (k + 1) hh.2 i v h
        exact ⟨V2, by simp [lv_args, h2, zcat]; rw [show k + (i + 1) = k + 1 + i by omega]; exact e1, e2⟩
theorem zMet_of {mt : Nat → Option zM} {B : Nat → Nat → Option (List zE)} {cl : List vw_C} {Ts : List Cond} {xs : List Int} (hW : zProg mt B cl Ts) {n : Nat} (ih : zGood mt B cl Ts xs n) (l : Launch) (M : Nat) (y : MethodName) (by' : ByteArray) (mL : Nat) (rt : Option FieldType) (fr lo : Nat) (vs : List zV) (h : zH) (r : zR) (hm : mt M = some (y, by', mL, rt, fr, lo)) (q : zrun B xs n M 0 (zargs vs) [] h = some r) : zMet l cl Ts xs y by' mL rt fr lo vs h r := by
  intro D ads b tys ws sz avs hb0 hR hvs hlen
  obtain ⟨hG, hcl, hW3⟩ := hW
  obtain ⟨hy, hplain, -, -⟩ := hW3 M y by' mL rt fr lo hm
  have hge := zgrow_run B xs n M 0 _ _ _ _ q
  refine Met.ofW (cc := by') (maxL := mL) (ret := rt) hplain rfl ?_
  intro p e s m args below meth c s₁ Bd hml hv
  obtain ⟨rfl, hsz, hP, hK, hD0, hX, hbl, hbA, hbw⟩ := hv
  have hx := Bd.exec
  have hb := Bd.bytes
  have hr := Bd.returns
  have hts : ∀ w ∈ Ts, w.before avs.toArray s = true := fun w hw => by
    rcases hG w hw with hg | hg
    · exact atoms_spec (ws := Cond.code y by' mL rt :: Ts.filter goodWord) Bd.pre w (List.mem_cons_of_mem _ (List.mem_filter.mpr ⟨hw, hg⟩))
    · exact zbad_use hg (hbw w hw hg)
  have hown : s.vm.findClass y.cls = some m.cls := findClass_of_methodNamed Bd.named
  have hlocks := Bd.notSynchronized
  have hin : (y.name == "<init>") = true → meth.name = "<init>" := fun hh => by
    rw [(name_of_methodNamed Bd.named Bd.method).1]
    exact eq_of_beq hh
  subst hsz
  have hD := hD0.self (sz := s.heap.size)
  have hA : ∀ q : Nat, s.heap.size ≤ q → va_A ws s.heap.size q := fun q h => Or.inr h
  rw [lg_entry_eq]
  have hl := lv_entry avs (n := mL) (by rw [zargs_lg hvs]; exact hlen)
  refine ih M y by' mL rt fr lo hm p l e _ s m avs.toArray below meth c _ D (va_A ws s.heap.size) ads h.length (zsz h) r ⟨hx, hb, hml, hts, hown, hA, hcl, hin, b, hb0, hX, hbl, hbA⟩ (Nat.le_refl _) (Nat.le_refl _) ?_ ⟨?_, ?_⟩ 0 (zargs vs) [] h q _ [] _ [] 0 0 ads tys ws ⟨hl.1, hl.2.1, fun i v hv => ?_⟩ trivial hR (zpre_rf _) hK hP hD va_S.rf (Nat.zero_add _) (Nat.zero_add _)
  · intro pc I ls rv H locs cells slots ads' tys' ws' hd hri hret hR' hpre' hK' hP' hD' hS' hn' hz'
    have e1 : cells = r.2.length - h.length := by omega
    have e2 : slots = zsz r.2 - zsz h := by omega
    subst e1
    subst e2
    have post : ∀ t : State, t.heap = H → s.WarmedH t.vm → zQc cl D ads ws s.heap.size r avs.toArray s (.returned rv) t := fun t ht hW => ⟨⟨rv, ads', tys', ws', rfl, hret, hR', hpre', by rw [ht]; exact hP', va_K.moved hW.alike hK', hD'⟩, hS'.F ht⟩
    rcases hri with ⟨rfl, v, rfl, hrt | ⟨hrt, hv⟩⟩ | ⟨rfl, hrt, v, rfl⟩ | ⟨rfl, V, rfl, hV, t, hrt, hkt⟩ | ⟨rfl, hrt, rfl⟩
    · exact W.iret hx hb (by rw [hr, hrt]) post hS'.2.2 hd hlocks
    · exact W.zret (ty := .boolean) hx hb (by rw [hr, hrt]) (by rcases hv with rfl | rfl <;> decide) post hS'.2.2 hd hlocks
    · exact W.lret hx hb (by rw [hr, hrt]) post hS'.2.2 hd hlocks
    · exact W.aret hx hb (by rw [hr, hrt]) hkt hV post hS'.2.2 hd hlocks
    · exact W.vret hx hb (by rw [hr, hrt]) post hS'.2.2 hd hlocks
  · show r.2.length ≤ (r.2.length - h.length) + h.length
    have := hge.1
    omega
  · show zsz r.2 ≤ (zsz r.2 - zsz h) + zsz h
    have := hge.2
    omega
  · obtain ⟨V, e1, e2⟩ := zargs_lv vs avs 0 hvs i v hv
    rw [Nat.zero_add] at e1
    exact ⟨V, hl.2.2 _ e1, e2⟩
theorem zGood_all {mt : Nat → Option zM} {B : Nat → Nat → Option (List zE)} {cl : List vw_C} {Ts : List Cond} {xs : List Int} (hW : zProg mt B cl Ts) : ∀ n, zGood mt B cl Ts xs n := by
  intro n
  induction n with
  | zero =>
    intro M y by' mL rt fr lo hm p l e R s m args below meth c Q D A ads0 n0 z0 res C0 hfr hlo hF hroom pc L st h q
    cases q
  | succ n ih =>
    intro M y by' mL rt fr lo hm p l e R s m args below meth c Q D A ads0 n0 z0 res C0 hfr hlo hF hroom pc L st h q
    rw [zrun] at q
    cases hb : B M pc with
    | none => rw [hb] at q; cases q
    | some b =>
      rw [hb] at q
      have hW3 := hW.2.2
      obtain ⟨-, -, -, hblk⟩ := hW3 M y by' mL rt fr lo hm
      refine zB_sim hW.1 (fun q y by' mL rt fr lo hq0 hq => ?_) (fun q y by' mL rt fr lo vs h r hq hrun => zMet_of hW ih l q y by' mL rt fr lo vs h r hq hrun) (zgrow_run B xs n) C0 hfr hlo hroom (fun pc L st h q' => ih M y by' mL rt fr lo hm p l e R s m args below meth c Q D A ads0 n0 z0 res C0 hfr hlo hF hroom pc L st h q') hF b pc L st h (hblk pc b hb) q
      obtain ⟨h1, -, h2, -⟩ := hW3 q y by' mL rt fr lo hq
      exact ⟨h1, h2 hq0⟩
end
section
/-! ===== the tables are right: what a program can check of them ===== -/
def zcpOK (mt : Nat → Option zM) (cl : List vw_C) (Ts : List Cond) (own : String) (idx : Nat) (e : List Nat) : Prop := match e with
  | [0, ci, j, k, fin] => ∃ (T : u_T) (N : Nat), cl[ci]? = some (own, T, N) ∧ j < N ∧ (T j).1 = own ∧ Cond.fieldLink own idx own (T j).2.1 (T j).2.2.1 ∈ Ts ∧ (∃ ty, parseFieldDescriptor (T j).2.2.1 = some ty ∧ zKd k ty) ∧ (fin = 0 → (T j).2.2.2 = false)
  | [1, q, n, mx, f2, l2, ci] => ∃ y by' rt T N, q ≠ 0 ∧ mt q = some (y, by', mx, rt, f2, l2) ∧ (parseMethodDescriptor y.desc).map (fun d => d.parameters.length) = some n ∧ cl[ci]? = some (y.cls, T, N) ∧ Cond.methodLink own idx y ∈ Ts ∧ Cond.instanceMethod y ∈ Ts ∧ Cond.selects y.cls y y ∈ Ts
  | [2, q, n, mx, f2, l2] => ∃ y by' rt, q ≠ 0 ∧ mt q = some (y, by', mx, rt, f2, l2) ∧ (parseMethodDescriptor y.desc).map (fun d => d.parameters.length) = some n ∧ (Cond.methodLink own idx y ∈ Ts ∨ ∃ host, Cond.methodLinkNest own idx y host ∈ Ts) ∧ Cond.static y ∈ Ts
  | [3, q, n, mx, f2, l2, ci] => ∃ y by' T N, q ≠ 0 ∧ mt q = some (y, by', mx, none, f2, l2) ∧ (parseMethodDescriptor y.desc).map (fun d => d.parameters.length) = some n ∧ cl[ci]? = some (y.cls, T, N) ∧ (Cond.methodLink own idx y ∈ Ts ∨ ∃ host, Cond.methodLinkNest own idx y host ∈ Ts) ∧ Cond.instanceMethod y ∈ Ts ∧ y.name = "<init>"
  | [4] => Cond.methodLink own idx Lib.objectInit ∈ Ts ∧ Cond.instanceMethod Lib.objectInit ∈ Ts ∧ Cond.code Lib.objectInit ⟨#[0xb1]⟩ 1 none ∈ Ts
  | 5 :: ci :: ks => zNw cl Ts own idx ci ks
  | [6, ci] => ∃ C T N, cl[ci]? = some (C, T, N) ∧ Cond.classLink own (idx - 100000) C ∈ Ts ∧ Cond.arrayOver (.object C) ∈ Ts
  | [7, sg, a] => Cond.constant own idx (Int32.ofInt (if sg = 0 then (a : Int) else -(a : Int))) ∈ Ts
  | [8, sg, a] => Cond.constantLong own idx (Int64.ofInt (if sg = 0 then (a : Int) else -(a : Int))) ∈ Ts
  | [9, w] => (w = 0 ∧ zMth Ts own idx Lib.Math.max.name Lib.Math.max.code) ∨ (w = 1 ∧ zMth Ts own idx Lib.Math.min.name Lib.Math.min.code)
  | _ => False
def zfnd (cp : List (Nat × List Nat)) (i : Nat) : List Nat := (cp.lookup i).getD []
def zdec (cc : ByteArray) (pc : Nat) (I : Instr) (n : Nat) : Bool := decide (decode cc pc = .ok (I, n))
/-- a jump's target -/
def zjmp (pc : Nat) (off : Int) (x : List Nat) : Bool := match x with
  | t :: _ => decide ((pc : Int) + off = (t : Int))
  | [] => false
def zck1 (cp : List (Nat × List Nat)) (ctor : Bool) (nL : Nat) (rt : Option FieldType) (fr lo : Nat) (cc : ByteArray) (pc : Nat) (I : Instr) (x : List Nat) (c : Int) : Bool := match I with
  | .nop => match x with | t :: _ => t == pc | [] => false
  | .goto off => zdec cc pc (.goto off) 3 && zjmp pc off x
  | .ifCond cd off => zdec cc pc (.ifCond cd off) 3 && zjmp pc off x
  | .if_icmp cd off => zdec cc pc (.if_icmp cd off) 3 && zjmp pc off x
  | .ifnull off => zdec cc pc (.ifnull off) 3 && zjmp pc off x
  | .ifnonnull off => zdec cc pc (.ifnonnull off) 3 && zjmp pc off x
  | .tableswitch d lo2 hi2 offs => zdec cc pc (.tableswitch d lo2 hi2 offs) c.toNat && (match x with
    | n :: dt :: rest => decide ((pc : Int) + d = (dt : Int)) && (offs.toList.map fun o => (pc : Int) + o) == ((rest.drop n).map fun (t : Nat) => (t : Int))
    | _ => false)
  | .ireturn => zdec cc pc .ireturn 1 && ((x == [0] && decide (rt = some .int)) || (x == [1] && decide (rt = some .boolean)))
  | .lreturn => zdec cc pc .lreturn 1 && decide (rt = some .long)
  | .areturn => zdec cc pc .areturn 1 && (match rt with | some (.object _) => true | some (.array _) => true | _ => false)
  | .return_ => zdec cc pc .return_ 1 && decide (rt = none)
  | .invokevirtual i => zdec cc pc (.invokevirtual i) 3 && (match zfnd cp i, x with | [1, q, n, mx, f2, l2, ci], [q', n', _, mx', ci'] => q == q' && n + 1 == n' && mx == mx' && ci == ci' && decide (f2 + 1 ≤ fr) && decide (8 + (mx + 11) + l2 ≤ lo) | _, _ => false)
  | .invokestatic i => zdec cc pc (.invokestatic i) 3 && (match zfnd cp i, x with | [2, q, n, mx, f2, l2], [q', n', _, mx'] => q == q' && n == n' && mx == mx' && decide (f2 + 1 ≤ fr) && decide (8 + (mx + 11) + l2 ≤ lo) | [9, w], [w'] => w == w' && decide (1 ≤ fr) && decide (21 ≤ lo) | _, _ => false)
  | .invokespecial i => zdec cc pc (.invokespecial i) 3 && (match zfnd cp i, x with | [4], [] => decide (1 ≤ fr) && decide (20 ≤ lo) | [3, q, n, mx, f2, l2, ci], [q', n', _, mx', ci'] => q == q' && n + 1 == n' && mx == mx' && ci == ci' && decide (f2 + 1 ≤ fr) && decide (8 + (mx + 11) + l2 ≤ lo) | _, _ => false)
  | .bipush n => zdec cc pc (.bipush n) 2 && decide (-128 ≤ n) && decide (n ≤ 127)
  | .sipush n => zdec cc pc (.sipush n) 3 && decide (-32768 ≤ n) && decide (n ≤ 32767)
  | .ldc i => zdec cc pc (.ldc i) 2 && (match zfnd cp i with | [7, sg, a] => decide (c = if sg = 0 then (a : Int) else -(a : Int)) | _ => false)
  | .ldc_w i => zdec cc pc (.ldc_w i) 3 && (match zfnd cp i with | [7, sg, a] => decide (c = if sg = 0 then (a : Int) else -(a : Int)) | _ => false)
  | .ldc2_w i => zdec cc pc (.ldc2_w i) 3 && (match zfnd cp i with | [8, sg, a] => decide (c = if sg = 0 then (a : Int) else -(a : Int)) | _ => false)
  | .istore i => zdec cc pc (.istore i) 2 && decide (i < nL)
  | .istore_n i => zdec cc pc (.istore_n i) 1 && decide ((i : Nat) < nL)
  | .astore i => zdec cc pc (.astore i) 2 && decide (i < nL)
  | .astore_n i => zdec cc pc (.astore_n i) 1 && decide ((i : Nat) < nL)
  | .lstore i => zdec cc pc (.lstore i) 2 && decide (i + 1 < nL)
  | .lstore_n i => zdec cc pc (.lstore_n i) 1 && decide ((i : Nat) + 1 < nL)
  | .getfield i => zdec cc pc (.getfield i) 3 && (match zfnd cp i, x with | [0, ci, j, _, _], [ci', j', _] => ci == ci' && j == j' | _, _ => false)
  | .putfield i => zdec cc pc (.putfield i) 3 && (match zfnd cp i, x with | [0, ci, j, k, fin], [ci', j', k'] => ci == ci' && j == j' && k == k' && (fin == 0 || ctor) | _, _ => false)
  | .new i => zdec cc pc (.new i) 3 && (match zfnd cp i with | 5 :: ks => ks == x | _ => false)
  | .newarray t => zdec cc pc (.newarray t) 2 && ((x == [0] && decide (t = .int)) || (x == [1] && decide (t = .long)))
  | .anewarray i => zdec cc pc (.anewarray i) 3 && (match zfnd cp (i + 100000) with | [6, ci] => x == [102 + ci] | _ => false)
  | .aaload => zdec cc pc .aaload 1 && (match x with | [t] => decide (102 ≤ t) | _ => false)
  | .aastore => zdec cc pc .aastore 1 && (match x with | [t, ci] => t == 102 + ci | _ => false)
  | I => zdec cc pc I (zlen I)
def zckB (cp : List (Nat × List Nat)) (ctor : Bool) (nL : Nat) (rt : Option FieldType) (fr lo : Nat) (cc : ByteArray) : Nat → List zE → Bool
  | _, [] => true
  | pc, (I, x, c) :: t => zck1 cp ctor nL rt fr lo cc pc I x c && zckB cp ctor nL rt fr lo cc (pc + zlen I) t
theorem zfnd_ok {mt : Nat → Option zM} {cl : List vw_C} {Ts : List Cond} {own : String} {cp : List (Nat × List Nat)} (hcp : ∀ i e, cp.lookup i = some e → zcpOK mt cl Ts own i e) {i n : Nat} {e : List Nat} (h : zfnd cp i = n :: e) : zcpOK mt cl Ts own i (n :: e) := by
  unfold zfnd at h
  cases hl : cp.lookup i with
  | none => rw [hl] at h; cases h
  | some e2 =>
    rw [hl] at h
    simp at h
    subst h
    exact hcp _ _ hl
theorem zdec_ok {cc : ByteArray} {pc n : Nat} {I : Instr} (h : zdec cc pc I n = true) : decode cc pc = .ok (I, n) := of_decide_eq_true h
theorem zjmp_ok {pc : Nat} {off : Int} {x : List Nat} (h : zjmp pc off x = true) : ∃ t mm, x = t :: mm ∧ (pc : Int) + off = (t : Int) := by
  rcases x with _ | ⟨t, x⟩
  · cases h
  · exact ⟨t, x, rfl, of_decide_eq_true h⟩
theorem zck1_ok {mt : Nat → Option zM} {cl : List vw_C} {Ts : List Cond} {own : String} {cp : List (Nat × List Nat)} (hcp : ∀ i e, cp.lookup i = some e → zcpOK mt cl Ts own i e) (hai : Cond.arrayClass .int ∈ Ts) (hal : Cond.arrayClass .long ∈ Ts) {ctor : Bool} {nL : Nat} {rt : Option FieldType} {fr lo : Nat} {cc : ByteArray} {pc : Nat} {I : Instr} {x : List Nat} {c : Int} (h : zck1 cp ctor nL rt fr lo cc pc I x c = true) : zIOK mt cl Ts own ctor nL rt fr lo cc pc I x c := by
  cases I
  case nop =>
    rcases x with _ | ⟨t, x⟩
    · cases h
    · have := eq_of_beq h
      subst this
      exact ⟨x, rfl⟩
  case goto off => simp only [zck1, Bool.and_eq_true] at h; exact ⟨zdec_ok h.1, zjmp_ok h.2⟩
  case ifCond cd off => simp only [zck1, Bool.and_eq_true] at h; exact ⟨zdec_ok h.1, zjmp_ok h.2⟩
  case if_icmp cd off => simp only [zck1, Bool.and_eq_true] at h; exact ⟨zdec_ok h.1, zjmp_ok h.2⟩
  case ifnull off => simp only [zck1, Bool.and_eq_true] at h; exact ⟨zdec_ok h.1, zjmp_ok h.2⟩
  case ifnonnull off => simp only [zck1, Bool.and_eq_true] at h; exact ⟨zdec_ok h.1, zjmp_ok h.2⟩
  case tableswitch d lo2 hi2 offs =>
    simp only [zck1, Bool.and_eq_true] at h
    obtain ⟨h1, h2⟩ := h
    rcases x with _ | ⟨n, _ | ⟨dt, rest⟩⟩
    · cases h2
    · cases h2
    · simp only [Bool.and_eq_true] at h2
      refine ⟨_, zdec_ok h1, n, dt, rest, rfl, of_decide_eq_true h2.1, fun j t ht => ?_⟩
      have h3 := eq_of_beq h2.2
      have h4 : ((rest.drop n).map fun (t : Nat) => (t : Int))[j]? = some (t : Int) := by rw [List.getElem?_map, ht]; rfl
      rw [← h3, List.getElem?_map] at h4
      cases ho : offs.toList[j]? with
      | none => rw [ho] at h4; cases h4
      | some o =>
        rw [ho] at h4
        refine ⟨o, by rw [← Array.getElem?_toList]; exact ho, ?_⟩
        simpa using h4
  case ireturn =>
    simp only [zck1, Bool.and_eq_true, Bool.or_eq_true, decide_eq_true_eq, beq_iff_eq] at h
    exact ⟨zdec_ok h.1, h.2⟩
  case lreturn =>
    simp only [zck1, Bool.and_eq_true, decide_eq_true_eq] at h
    exact ⟨zdec_ok h.1, h.2⟩
  case areturn =>
    simp only [zck1, Bool.and_eq_true] at h
    refine ⟨zdec_ok h.1, ?_⟩
    have h2 := h.2
    split at h2
    next n => exact ⟨_, rfl, Or.inl ⟨n, rfl⟩⟩
    next t => exact ⟨_, rfl, Or.inr ⟨t, rfl⟩⟩
    next => cases h2
  case return_ =>
    simp only [zck1, Bool.and_eq_true, decide_eq_true_eq] at h
    exact ⟨zdec_ok h.1, h.2⟩
  case invokevirtual i =>
    simp only [zck1, Bool.and_eq_true] at h
    refine ⟨zdec_ok h.1, ?_⟩
    have h2 := h.2
    split at h2
    next q n mx f2 l2 ci q' n' t mx' ci' he =>
      simp only [Bool.and_eq_true, decide_eq_true_eq, beq_iff_eq] at h2
      obtain ⟨⟨⟨⟨⟨rfl, rfl⟩, rfl⟩, rfl⟩, hf⟩, hl⟩ := h2
      obtain ⟨y, by', rt2, T, N, e0, e1, e2, e3, e4, e5, e6⟩ := zfnd_ok hcp he
      exact ⟨q, n, t, mx, ci, y, rt2, T, N, rfl, ⟨by', f2, l2, e0, e1, hf, hl, e2⟩, e3, e4, e5, e6⟩
    next => cases h2
  case invokestatic i =>
    simp only [zck1, Bool.and_eq_true] at h
    refine ⟨zdec_ok h.1, ?_⟩
    have h2 := h.2
    split at h2
    next q n mx f2 l2 q' n' t mx' he =>
      simp only [Bool.and_eq_true, decide_eq_true_eq, beq_iff_eq] at h2
      obtain ⟨⟨⟨⟨rfl, rfl⟩, rfl⟩, hf⟩, hl⟩ := h2
      obtain ⟨y, by', rt2, e0, e1, e2, e3, e4⟩ := zfnd_ok hcp he
      exact Or.inr (Or.inr ⟨q, n, t, mx, y, rt2, rfl, ⟨by', f2, l2, e0, e1, hf, hl, e2⟩, e3, e4⟩)
    next w w' he =>
      simp only [Bool.and_eq_true, decide_eq_true_eq, beq_iff_eq] at h2
      obtain ⟨⟨rfl, hf⟩, hl⟩ := h2
      rcases zfnd_ok hcp he with ⟨rfl, hm⟩ | ⟨rfl, hm⟩
      · exact Or.inl ⟨rfl, hm, hf, hl⟩
      · exact Or.inr (Or.inl ⟨rfl, hm, hf, hl⟩)
    next => cases h2
  case invokespecial i =>
    simp only [zck1, Bool.and_eq_true] at h
    refine ⟨zdec_ok h.1, ?_⟩
    have h2 := h.2
    split at h2
    next he =>
      simp only [Bool.and_eq_true, decide_eq_true_eq] at h2
      obtain ⟨e1, e2, e3⟩ := zfnd_ok hcp he
      exact Or.inl ⟨rfl, e1, e2, e3, h2.1, h2.2⟩
    next q n mx f2 l2 ci q' n' t mx' ci' he =>
      simp only [Bool.and_eq_true, decide_eq_true_eq, beq_iff_eq] at h2
      obtain ⟨⟨⟨⟨⟨rfl, rfl⟩, rfl⟩, rfl⟩, hf⟩, hl⟩ := h2
      obtain ⟨y, by', T, N, e0, e1, e2, e3, e4, e5, e6⟩ := zfnd_ok hcp he
      exact Or.inr ⟨q, n, t, mx, ci, y, T, N, rfl, ⟨by', f2, l2, e0, e1, hf, hl, e2⟩, e3, e4, e5, e6⟩
    next => cases h2
  case bipush n => simp only [zck1, Bool.and_eq_true, decide_eq_true_eq] at h; exact ⟨zdec_ok h.1.1, h.1.2, h.2⟩
  case sipush n => simp only [zck1, Bool.and_eq_true, decide_eq_true_eq] at h; exact ⟨zdec_ok h.1.1, h.1.2, h.2⟩
  case ldc i =>
    simp only [zck1, Bool.and_eq_true] at h
    refine ⟨zdec_ok h.1, ?_⟩
    have h2 := h.2
    split at h2
    next sg a he => rw [of_decide_eq_true h2]; exact zfnd_ok hcp he
    next => cases h2
  case ldc_w i =>
    simp only [zck1, Bool.and_eq_true] at h
    refine ⟨zdec_ok h.1, ?_⟩
    have h2 := h.2
    split at h2
    next sg a he => rw [of_decide_eq_true h2]; exact zfnd_ok hcp he
    next => cases h2
  case ldc2_w i =>
    simp only [zck1, Bool.and_eq_true] at h
    refine ⟨zdec_ok h.1, ?_⟩
    have h2 := h.2
    split at h2
    next sg a he => rw [of_decide_eq_true h2]; exact zfnd_ok hcp he
    next => cases h2
  case istore i => simp only [zck1, Bool.and_eq_true, decide_eq_true_eq] at h; exact ⟨zdec_ok h.1, h.2⟩
  case istore_n i => simp only [zck1, Bool.and_eq_true, decide_eq_true_eq] at h; exact ⟨zdec_ok h.1, h.2⟩
  case astore i => simp only [zck1, Bool.and_eq_true, decide_eq_true_eq] at h; exact ⟨zdec_ok h.1, h.2⟩
  case astore_n i => simp only [zck1, Bool.and_eq_true, decide_eq_true_eq] at h; exact ⟨zdec_ok h.1, h.2⟩
  case lstore i => simp only [zck1, Bool.and_eq_true, decide_eq_true_eq] at h; exact ⟨zdec_ok h.1, h.2⟩
  case lstore_n i => simp only [zck1, Bool.and_eq_true, decide_eq_true_eq] at h; exact ⟨zdec_ok h.1, h.2⟩
  case getfield i =>
    simp only [zck1, Bool.and_eq_true] at h
    refine ⟨zdec_ok h.1, ?_⟩
    have h2 := h.2
    split at h2
    next ci j k fin ci' j' k' he =>
      simp only [Bool.and_eq_true, beq_iff_eq] at h2
      obtain ⟨rfl, rfl⟩ := h2
      obtain ⟨T, N, e1, e2, e3, e4, -⟩ := zfnd_ok hcp he
      exact ⟨ci, j, k', rfl, T, N, e1, e2, e3, e4⟩
    next => cases h2
  case putfield i =>
    simp only [zck1, Bool.and_eq_true] at h
    refine ⟨zdec_ok h.1, ?_⟩
    have h2 := h.2
    split at h2
    next ci j k fin ci' j' k' he =>
      simp only [Bool.and_eq_true, Bool.or_eq_true, beq_iff_eq] at h2
      obtain ⟨⟨⟨rfl, rfl⟩, rfl⟩, hfin⟩ := h2
      obtain ⟨T, N, e1, e2, e3, e4, e5, e6⟩ := zfnd_ok hcp he
      exact ⟨ci, j, k, rfl, T, N, e1, e2, e3, e4, e5, hfin.imp e6 id⟩
    next => cases h2
  case new i =>
    simp only [zck1, Bool.and_eq_true] at h
    refine ⟨zdec_ok h.1, ?_⟩
    have h2 := h.2
    split at h2
    next ks he =>
      have := eq_of_beq h2
      subst this
      have h3 := zfnd_ok hcp he
      rcases ks with _ | ⟨ci, ks⟩
      · exact h3.elim
      · exact ⟨ci, ks, rfl, h3⟩
    next => cases h2
  case newarray t =>
    simp only [zck1, Bool.and_eq_true, Bool.or_eq_true, decide_eq_true_eq, beq_iff_eq] at h
    refine ⟨zdec_ok h.1, ?_⟩
    rcases h.2 with ⟨h1, h2⟩ | ⟨h1, h2⟩
    · exact Or.inl ⟨h1, h2, hai⟩
    · exact Or.inr ⟨h1, h2, hal⟩
  case anewarray i =>
    simp only [zck1, Bool.and_eq_true] at h
    refine ⟨zdec_ok h.1, ?_⟩
    have h2 := h.2
    split at h2
    next ci he =>
      obtain ⟨C, T, N, e1, e2, e3⟩ := zfnd_ok hcp he
      rw [Nat.add_sub_cancel] at e2
      exact ⟨ci, C, T, N, eq_of_beq h2, e1, e2, e3⟩
    next => cases h2
  case aaload =>
    simp only [zck1, Bool.and_eq_true] at h
    refine ⟨zdec_ok h.1, ?_⟩
    have h2 := h.2
    split at h2
    next t => exact ⟨t - 102, by have := of_decide_eq_true h2; simp; omega⟩
    next => cases h2
  case aastore =>
    simp only [zck1, Bool.and_eq_true] at h
    refine ⟨zdec_ok h.1, ?_⟩
    have h2 := h.2
    split at h2
    next t ci => exact ⟨ci, by rw [eq_of_beq h2]⟩
    next => cases h2
  all_goals exact ⟨zdec_ok h, trivial⟩
theorem zckB_ok {mt : Nat → Option zM} {cl : List vw_C} {Ts : List Cond} {own : String} {cp : List (Nat × List Nat)} (hcp : ∀ i e, cp.lookup i = some e → zcpOK mt cl Ts own i e) (hai : Cond.arrayClass .int ∈ Ts) (hal : Cond.arrayClass .long ∈ Ts) {ctor : Bool} {nL : Nat} {rt : Option FieldType} {fr lo : Nat} {cc : ByteArray} : ∀ {b : List zE} {pc : Nat}, zckB cp ctor nL rt fr lo cc pc b = true → zBK mt cl Ts own ctor nL rt fr lo cc pc b
  | [], _, _ => trivial
  | (I, x, c) :: t, pc, h => by
    simp only [zckB, Bool.and_eq_true] at h
    exact ⟨zck1_ok hcp hai hal h.1, zckB_ok hcp hai hal h.2⟩
/-- all blocks of a method -/
def zckM (cp : List (Nat × List Nat)) (ctor : Bool) (nL : Nat) (rt : Option FieldType) (fr lo : Nat) (cc : ByteArray) (bs : List (Nat × List zE)) : Bool := bs.all fun q => zckB cp ctor nL rt fr lo cc q.1 q.2
theorem zlook {α : Type} : ∀ {l : List (Nat × α)} {i : Nat} {e : α}, l.lookup i = some e → (i, e) ∈ l
  | [], _, _, h => by cases h
  | (j, d) :: t, i, e, h => by
    rw [List.lookup_cons] at h
    cases hij : (i == j) with
    | true =>
      rw [hij] at h
      cases h
      rw [eq_of_beq hij]
      exact List.mem_cons_self
    | false =>
      rw [hij] at h
      exact List.mem_cons_of_mem _ (zlook h)
theorem zckM_ok {mt : Nat → Option zM} {cl : List vw_C} {Ts : List Cond} {own : String} {cp : List (Nat × List Nat)} (hcp : ∀ q ∈ cp, zcpOK mt cl Ts own q.1 q.2) (hai : Cond.arrayClass .int ∈ Ts) (hal : Cond.arrayClass .long ∈ Ts) {ctor : Bool} {nL : Nat} {rt : Option FieldType} {fr lo : Nat} {cc : ByteArray} {bs : List (Nat × List zE)} (h : zckM cp ctor nL rt fr lo cc bs = true) (pc : Nat) (b : List zE) (hb : bs.lookup pc = some b) : zBK mt cl Ts own ctor nL rt fr lo cc pc b :=
  zckB_ok (fun i e he => hcp _ (zlook he)) hai hal (List.all_eq_true.mp h _ (zlook hb))
end
section
/-! ===== the claim's own code, as the reading has it (printed by a program of mine out of javap's listing; checked in the next part) ===== -/
def zcls : List vw_C := [(RX0, TX0, 3), (RX1, TX1, 2), (RX2, TX2, 2), (RX3, TX3, 2), (RX4, TX4, 2), (RX5, TX5, 4), (RX6, TX6, 14), (RX7, TX7, 27)]
/-- MindReadersLaw.law([I)Z -/
def zc_0 : List (Nat × List zE) := [(0, [(.new 7, [6, 2, 2, 2, 0, 2, 2, 2, 2, 0, 2, 2, 2, 2, 2], 0), (.dup, [], 0), (.invokespecial 9, [1, 1, 0, 2, 6], 0), (.astore_n 1, [], 0), (.new 10, [7, 2, 0, 0, 0, 2, 0, 2, 2, 0, 2, 0, 2, 2, 0, 2, 2, 0, 2, 0, 2, 2, 2, 0, 0, 2, 2, 1], 0), (.dup, [], 0), (.invokespecial 12, [66, 1, 0, 1, 7], 0), (.astore_n 2, [], 0), (.iconst 0, [], 0), (.istore_n 3, [], 0), (.nop, [18, 1, 1, 1, 1], 0)]),
  (18, [(.iload_n 3, [], 0), (.aload_n 0, [], 0), (.arraylength, [], 0), (.bipush 6, [], 0), (.isub, [], 0), (.if_icmp .gt 1169, [1193], 0), (.aload_n 0, [], 0), (.iload_n 3, [], 0), (.iaload, [], 0), (.bipush 63, [], 0), (.iand, [], 0), (.tableswitch 1154 0 34 #[155, 208, 221, 234, 247, 300, 333, 366, 389, 422, 465, 488, 521, 554, 577, 610, 633, 666, 699, 722, 745, 809, 832, 845, 858, 891, 925, 958, 981, 1035, 1068, 1091, 1104, 1117, 1140], [4, 1187, 1, 1, 1, 1, 188, 241, 254, 267, 280, 333, 366, 399, 422, 455, 498, 521, 554, 587, 610, 643, 666, 699, 732, 755, 778, 842, 865, 878, 891, 924, 958, 991, 1014, 1068, 1101, 1124, 1137, 1150, 1173], 155)]),
  (188, [(.aload_n 1, [], 0), (.aload_n 0, [], 0), (.iload_n 3, [], 0), (.iconst 1, [], 0), (.iadd, [], 0), (.iaload, [], 0), (.i2l, [], 0), (.bipush 32, [], 0), (.lshl, [], 0), (.aload_n 0, [], 0), (.iload_n 3, [], 0), (.iconst 2, [], 0), (.iadd, [], 0), (.iaload, [], 0), (.i2l, [], 0), (.ldc2_w 13, [], 4294967295), (.land, [], 0), (.lor, [], 0), (.invokevirtual 15, [2, 2, 1, 5, 6], 0), (.aload_n 2, [], 0), (.aload_n 0, [], 0), (.iload_n 3, [], 0), (.iconst 1, [], 0), (.iadd, [], 0), (.iaload, [], 0), (.i2l, [], 0), (.bipush 32, [], 0), (.lshl, [], 0), (.aload_n 0, [], 0), (.iload_n 3, [], 0), (.iconst 2, [], 0), (.iadd, [], 0), (.iaload, [], 0), (.i2l, [], 0), (.ldc2_w 13, [], 4294967295), (.land, [], 0), (.lor, [], 0), (.invokevirtual 19, [68, 2, 1, 9, 7], 0), (.if_icmp .eq 951, [1187, 1, 1, 1, 1], 0), (.iconst 0, [], 0), (.ireturn, [1], 0)]),
  (241, [(.aload_n 1, [], 0), (.invokevirtual 20, [3, 1, 1, 2, 6], 0), (.aload_n 2, [], 0), (.invokevirtual 24, [69, 1, 1, 2, 7], 0), (.if_icmp .eq 938, [1187, 1, 1, 1, 1], 0), (.iconst 0, [], 0), (.ireturn, [1], 0)]),
  (254, [(.aload_n 1, [], 0), (.invokevirtual 25, [4, 1, 1, 1, 6], 0), (.aload_n 2, [], 0), (.invokevirtual 28, [72, 1, 1, 1, 7], 0), (.if_icmp .eq 925, [1187, 1, 1, 1, 1], 0), (.iconst 0, [], 0), (.ireturn, [1], 0)]),
  (267, [(.aload_n 1, [], 0), (.invokevirtual 29, [5, 1, 1, 3, 6], 0), (.aload_n 2, [], 0), (.invokevirtual 32, [73, 1, 1, 2, 7], 0), (.if_icmp .eq 912, [1187, 1, 1, 1, 1], 0), (.iconst 0, [], 0), (.ireturn, [1], 0)]),
  (280, [(.aload_n 1, [], 0), (.aload_n 0, [], 0), (.iload_n 3, [], 0), (.iconst 1, [], 0), (.iadd, [], 0), (.iaload, [], 0), (.aload_n 0, [], 0), (.iload_n 3, [], 0), (.iconst 2, [], 0), (.iadd, [], 0), (.iaload, [], 0), (.aload_n 0, [], 0), (.iload_n 3, [], 0), (.iconst 3, [], 0), (.iadd, [], 0), (.iaload, [], 0), (.aload_n 0, [], 0), (.iload_n 3, [], 0), (.iconst 4, [], 0), (.iadd, [], 0), (.iaload, [], 0), (.invokevirtual 33, [6, 5, 1, 7, 6], 0), (.aload_n 2, [], 0), (.aload_n 0, [], 0), (.iload_n 3, [], 0), (.iconst 1, [], 0), (.iadd, [], 0), (.iaload, [], 0), (.aload_n 0, [], 0), (.iload_n 3, [], 0), (.iconst 2, [], 0), (.iadd, [], 0), (.iaload, [], 0), (.aload_n 0, [], 0), (.iload_n 3, [], 0), (.iconst 3, [], 0), (.iadd, [], 0), (.iaload, [], 0), (.aload_n 0, [], 0), (.iload_n 3, [], 0), (.iconst 4, [], 0), (.iadd, [], 0), (.iaload, [], 0), (.invokevirtual 37, [75, 5, 1, 6, 7], 0), (.if_icmp .eq 859, [1187, 1, 1, 1, 1], 0), (.iconst 0, [], 0), (.ireturn, [1], 0)]),
  (333, [(.aload_n 1, [], 0), (.aload_n 0, [], 0), (.iload_n 3, [], 0), (.iconst 1, [], 0), (.iadd, [], 0), (.iaload, [], 0), (.aload_n 0, [], 0), (.iload_n 3, [], 0), (.iconst 2, [], 0), (.iadd, [], 0), (.iaload, [], 0), (.invokevirtual 38, [7, 3, 1, 5, 6], 0), (.aload_n 2, [], 0), (.aload_n 0, [], 0), (.iload_n 3, [], 0), (.iconst 1, [], 0), (.iadd, [], 0), (.iaload, [], 0), (.aload_n 0, [], 0), (.iload_n 3, [], 0), (.iconst 2, [], 0), (.iadd, [], 0), (.iaload, [], 0), (.invokevirtual 42, [77, 3, 1, 5, 7], 0), (.if_icmp .eq 826, [1187, 1, 1, 1, 1], 0), (.iconst 0, [], 0), (.ireturn, [1], 0)]),
  (366, [(.aload_n 1, [], 0), (.aload_n 0, [], 0), (.iload_n 3, [], 0), (.iconst 1, [], 0), (.iadd, [], 0), (.iaload, [], 0), (.aload_n 0, [], 0), (.iload_n 3, [], 0), (.iconst 2, [], 0), (.iadd, [], 0), (.iaload, [], 0), (.invokevirtual 43, [8, 3, 1, 3, 6], 0), (.aload_n 2, [], 0), (.aload_n 0, [], 0), (.iload_n 3, [], 0), (.iconst 1, [], 0), (.iadd, [], 0), (.iaload, [], 0), (.aload_n 0, [], 0), (.iload_n 3, [], 0), (.iconst 2, [], 0), (.iadd, [], 0), (.iaload, [], 0), (.invokevirtual 46, [78, 3, 1, 3, 7], 0), (.if_icmp .eq 793, [1187, 1, 1, 1, 1], 0), (.iconst 0, [], 0), (.ireturn, [1], 0)]),
  (399, [(.aload_n 1, [], 0), (.aload_n 0, [], 0), (.iload_n 3, [], 0), (.iconst 1, [], 0), (.iadd, [], 0), (.iaload, [], 0), (.invokevirtual 47, [9, 2, 1, 2, 6], 0), (.aload_n 2, [], 0), (.aload_n 0, [], 0), (.iload_n 3, [], 0), (.iconst 1, [], 0), (.iadd, [], 0), (.iaload, [], 0), (.invokevirtual 51, [79, 2, 1, 2, 7], 0), (.if_icmp .eq 770, [1187, 1, 1, 1, 1], 0), (.iconst 0, [], 0), (.ireturn, [1], 0)]),
  (422, [(.aload_n 1, [], 0), (.aload_n 0, [], 0), (.iload_n 3, [], 0), (.iconst 1, [], 0), (.iadd, [], 0), (.iaload, [], 0), (.aload_n 0, [], 0), (.iload_n 3, [], 0), (.iconst 2, [], 0), (.iadd, [], 0), (.iaload, [], 0), (.invokevirtual 52, [10, 3, 1, 4, 6], 0), (.aload_n 2, [], 0), (.aload_n 0, [], 0), (.iload_n 3, [], 0), (.iconst 1, [], 0), (.iadd, [], 0), (.iaload, [], 0), (.aload_n 0, [], 0), (.iload_n 3, [], 0), (.iconst 2, [], 0), (.iadd, [], 0), (.iaload, [], 0), (.invokevirtual 55, [81, 3, 1, 4, 7], 0), (.if_icmp .eq 737, [1187, 1, 1, 1, 1], 0), (.iconst 0, [], 0), (.ireturn, [1], 0)]),
  (455, [(.aload_n 1, [], 0), (.aload_n 0, [], 0), (.iload_n 3, [], 0), (.iconst 1, [], 0), (.iadd, [], 0), (.iaload, [], 0), (.aload_n 0, [], 0), (.iload_n 3, [], 0), (.iconst 2, [], 0), (.iadd, [], 0), (.iaload, [], 0), (.aload_n 0, [], 0), (.iload_n 3, [], 0), (.iconst 3, [], 0), (.iadd, [], 0), (.iaload, [], 0), (.invokevirtual 56, [11, 4, 1, 5, 6], 0), (.aload_n 2, [], 0), (.aload_n 0, [], 0), (.iload_n 3, [], 0), (.iconst 1, [], 0), (.iadd, [], 0), (.iaload, [], 0), (.aload_n 0, [], 0), (.iload_n 3, [], 0), (.iconst 2, [], 0), (.iadd, [], 0), (.iaload, [], 0), (.aload_n 0, [], 0), (.iload_n 3, [], 0), (.iconst 3, [], 0), (.iadd, [], 0), (.iaload, [], 0), (.invokevirtual 60, [90, 4, 1, 4, 7], 0), (.if_icmp .eq 694, [1187, 1, 1, 1, 1], 0), (.iconst 0, [], 0), (.ireturn, [1], 0)]),
  (498, [(.aload_n 1, [], 0), (.aload_n 0, [], 0), (.iload_n 3, [], 0), (.iconst 1, [], 0), (.iadd, [], 0), (.iaload, [], 0), (.invokevirtual 61, [12, 2, 1, 3, 6], 0), (.aload_n 2, [], 0), (.aload_n 0, [], 0), (.iload_n 3, [], 0), (.iconst 1, [], 0), (.iadd, [], 0), (.iaload, [], 0), (.invokevirtual 64, [96, 2, 1, 3, 7], 0), (.if_icmp .eq 671, [1187, 1, 1, 1, 1], 0), (.iconst 0, [], 0), (.ireturn, [1], 0)]),
  (521, [(.aload_n 1, [], 0), (.aload_n 0, [], 0), (.iload_n 3, [], 0), (.iconst 1, [], 0), (.iadd, [], 0), (.iaload, [], 0), (.aload_n 0, [], 0), (.iload_n 3, [], 0), (.iconst 2, [], 0), (.iadd, [], 0), (.iaload, [], 0), (.invokevirtual 65, [13, 3, 1, 5, 6], 0), (.aload_n 2, [], 0), (.aload_n 0, [], 0), (.iload_n 3, [], 0), (.iconst 1, [], 0), (.iadd, [], 0), (.iaload, [], 0), (.aload_n 0, [], 0), (.iload_n 3, [], 0), (.iconst 2, [], 0), (.iadd, [], 0), (.iaload, [], 0), (.invokevirtual 68, [98, 3, 1, 4, 7], 0), (.if_icmp .eq 638, [1187, 1, 1, 1, 1], 0), (.iconst 0, [], 0), (.ireturn, [1], 0)]),
  (554, [(.aload_n 1, [], 0), (.aload_n 0, [], 0), (.iload_n 3, [], 0), (.iconst 1, [], 0), (.iadd, [], 0), (.iaload, [], 0), (.aload_n 0, [], 0), (.iload_n 3, [], 0), (.iconst 2, [], 0), (.iadd, [], 0), (.iaload, [], 0), (.invokevirtual 69, [14, 3, 1, 4, 6], 0), (.aload_n 2, [], 0), (.aload_n 0, [], 0), (.iload_n 3, [], 0), (.iconst 1, [], 0), (.iadd, [], 0), (.iaload, [], 0), (.aload_n 0, [], 0), (.iload_n 3, [], 0), (.iconst 2, [], 0), (.iadd, [], 0), (.iaload, [], 0), (.invokevirtual 72, [99, 3, 1, 7, 7], 0), (.if_icmp .eq 605, [1187, 1, 1, 1, 1], 0), (.iconst 0, [], 0), (.ireturn, [1], 0)]),
  (587, [(.aload_n 1, [], 0), (.aload_n 0, [], 0), (.iload_n 3, [], 0), (.iconst 1, [], 0), (.iadd, [], 0), (.iaload, [], 0), (.invokevirtual 73, [15, 2, 1, 3, 6], 0), (.aload_n 2, [], 0), (.aload_n 0, [], 0), (.iload_n 3, [], 0), (.iconst 1, [], 0), (.iadd, [], 0), (.iaload, [], 0), (.invokevirtual 76, [104, 2, 1, 2, 7], 0), (.if_icmp .eq 582, [1187, 1, 1, 1, 1], 0), (.iconst 0, [], 0), (.ireturn, [1], 0)]),
  (610, [(.aload_n 1, [], 0), (.aload_n 0, [], 0), (.iload_n 3, [], 0), (.iconst 1, [], 0), (.iadd, [], 0), (.iaload, [], 0), (.aload_n 0, [], 0), (.iload_n 3, [], 0), (.iconst 2, [], 0), (.iadd, [], 0), (.iaload, [], 0), (.invokevirtual 77, [16, 3, 1, 8, 6], 0), (.aload_n 2, [], 0), (.aload_n 0, [], 0), (.iload_n 3, [], 0), (.iconst 1, [], 0), (.iadd, [], 0), (.iaload, [], 0), (.aload_n 0, [], 0), (.iload_n 3, [], 0), (.iconst 2, [], 0), (.iadd, [], 0), (.iaload, [], 0), (.invokevirtual 80, [110, 3, 1, 6, 7], 0), (.if_icmp .eq 549, [1187, 1, 1, 1, 1], 0), (.iconst 0, [], 0), (.ireturn, [1], 0)]),
  (643, [(.aload_n 1, [], 0), (.aload_n 0, [], 0), (.iload_n 3, [], 0), (.iconst 1, [], 0), (.iadd, [], 0), (.iaload, [], 0), (.invokevirtual 81, [17, 2, 1, 6, 6], 0), (.aload_n 2, [], 0), (.aload_n 0, [], 0), (.iload_n 3, [], 0), (.iconst 1, [], 0), (.iadd, [], 0), (.iaload, [], 0), (.invokevirtual 84, [112, 2, 1, 2, 7], 0), (.if_icmp .eq 526, [1187, 1, 1, 1, 1], 0), (.iconst 0, [], 0), (.ireturn, [1], 0)]),
  (666, [(.aload_n 1, [], 0), (.aload_n 0, [], 0), (.iload_n 3, [], 0), (.iconst 1, [], 0), (.iadd, [], 0), (.iaload, [], 0), (.aload_n 0, [], 0), (.iload_n 3, [], 0), (.iconst 2, [], 0), (.iadd, [], 0), (.iaload, [], 0), (.invokevirtual 85, [18, 3, 1, 8, 6], 0), (.aload_n 2, [], 0), (.aload_n 0, [], 0), (.iload_n 3, [], 0), (.iconst 1, [], 0), (.iadd, [], 0), (.iaload, [], 0), (.aload_n 0, [], 0), (.iload_n 3, [], 0), (.iconst 2, [], 0), (.iadd, [], 0), (.iaload, [], 0), (.invokevirtual 88, [115, 3, 1, 6, 7], 0), (.if_icmp .eq 493, [1187, 1, 1, 1, 1], 0), (.iconst 0, [], 0), (.ireturn, [1], 0)]),
  (699, [(.aload_n 1, [], 0), (.aload_n 0, [], 0), (.iload_n 3, [], 0), (.iconst 1, [], 0), (.iadd, [], 0), (.iaload, [], 0), (.aload_n 0, [], 0), (.iload_n 3, [], 0), (.iconst 2, [], 0), (.iadd, [], 0), (.iaload, [], 0), (.invokevirtual 89, [19, 3, 1, 3, 6], 0), (.aload_n 2, [], 0), (.aload_n 0, [], 0), (.iload_n 3, [], 0), (.iconst 1, [], 0), (.iadd, [], 0), (.iaload, [], 0), (.aload_n 0, [], 0), (.iload_n 3, [], 0), (.iconst 2, [], 0), (.iadd, [], 0), (.iaload, [], 0), (.invokevirtual 92, [118, 3, 1, 3, 7], 0), (.if_icmp .eq 460, [1187, 1, 1, 1, 1], 0), (.iconst 0, [], 0), (.ireturn, [1], 0)]),
  (732, [(.aload_n 1, [], 0), (.aload_n 0, [], 0), (.iload_n 3, [], 0), (.iconst 1, [], 0), (.iadd, [], 0), (.iaload, [], 0), (.invokevirtual 93, [20, 2, 1, 3, 6], 0), (.aload_n 2, [], 0), (.aload_n 0, [], 0), (.iload_n 3, [], 0), (.iconst 1, [], 0), (.iadd, [], 0), (.iaload, [], 0), (.invokevirtual 96, [120, 2, 1, 2, 7], 0), (.if_icmp .eq 437, [1187, 1, 1, 1, 1], 0), (.iconst 0, [], 0), (.ireturn, [1], 0)]),
  (755, [(.aload_n 1, [], 0), (.aload_n 0, [], 0), (.iload_n 3, [], 0), (.iconst 1, [], 0), (.iadd, [], 0), (.iaload, [], 0), (.invokevirtual 97, [21, 2, 1, 3, 6], 0), (.aload_n 2, [], 0), (.aload_n 0, [], 0), (.iload_n 3, [], 0), (.iconst 1, [], 0), (.iadd, [], 0), (.iaload, [], 0), (.invokevirtual 100, [121, 2, 1, 2, 7], 0), (.if_icmp .eq 414, [1187, 1, 1, 1, 1], 0), (.iconst 0, [], 0), (.ireturn, [1], 0)]),
  (778, [(.aload_n 1, [], 0), (.aload_n 0, [], 0), (.iload_n 3, [], 0), (.iconst 1, [], 0), (.iadd, [], 0), (.iaload, [], 0), (.aload_n 0, [], 0), (.iload_n 3, [], 0), (.iconst 2, [], 0), (.iadd, [], 0), (.iaload, [], 0), (.aload_n 0, [], 0), (.iload_n 3, [], 0), (.iconst 3, [], 0), (.iadd, [], 0), (.iaload, [], 0), (.aload_n 0, [], 0), (.iload_n 3, [], 0), (.iconst 4, [], 0), (.iadd, [], 0), (.iaload, [], 0), (.aload_n 0, [], 0), (.iload_n 3, [], 0), (.iconst 5, [], 0), (.iadd, [], 0), (.iaload, [], 0), (.invokevirtual 101, [22, 6, 2, 8, 6], 0), (.aload_n 2, [], 0), (.aload_n 0, [], 0), (.iload_n 3, [], 0), (.iconst 1, [], 0), (.iadd, [], 0), (.iaload, [], 0), (.aload_n 0, [], 0), (.iload_n 3, [], 0), (.iconst 2, [], 0), (.iadd, [], 0), (.iaload, [], 0), (.aload_n 0, [], 0), (.iload_n 3, [], 0), (.iconst 3, [], 0), (.iadd, [], 0), (.iaload, [], 0), (.aload_n 0, [], 0), (.iload_n 3, [], 0), (.iconst 4, [], 0), (.iadd, [], 0), (.iaload, [], 0), (.aload_n 0, [], 0), (.iload_n 3, [], 0), (.iconst 5, [], 0), (.iadd, [], 0), (.iaload, [], 0), (.invokevirtual 105, [123, 6, 2, 17, 7], 0), (.lcmp, [], 0), (.ifCond .eq 350, [1187, 1, 1, 1, 1], 0), (.iconst 0, [], 0), (.ireturn, [1], 0)]),
  (842, [(.aload_n 1, [], 0), (.aload_n 0, [], 0), (.iload_n 3, [], 0), (.iconst 1, [], 0), (.iadd, [], 0), (.iaload, [], 0), (.invokevirtual 106, [23, 2, 1, 2, 6], 0), (.aload_n 2, [], 0), (.aload_n 0, [], 0), (.iload_n 3, [], 0), (.iconst 1, [], 0), (.iadd, [], 0), (.iaload, [], 0), (.invokevirtual 109, [124, 2, 1, 3, 7], 0), (.if_icmp .eq 327, [1187, 1, 1, 1, 1], 0), (.iconst 0, [], 0), (.ireturn, [1], 0)]),
  (865, [(.aload_n 1, [], 0), (.invokevirtual 110, [24, 1, 1, 2, 6], 0), (.aload_n 2, [], 0), (.invokevirtual 113, [125, 1, 1, 2, 7], 0), (.if_icmp .eq 314, [1187, 1, 1, 1, 1], 0), (.iconst 0, [], 0), (.ireturn, [1], 0)]),
  (878, [(.aload_n 1, [], 0), (.invokevirtual 114, [25, 1, 1, 4, 6], 0), (.aload_n 2, [], 0), (.invokevirtual 117, [128, 1, 1, 1, 7], 0), (.if_icmp .eq 301, [1187, 1, 1, 1, 1], 0), (.iconst 0, [], 0), (.ireturn, [1], 0)]),
  (891, [(.aload_n 1, [], 0), (.aload_n 0, [], 0), (.iload_n 3, [], 0), (.iconst 1, [], 0), (.iadd, [], 0), (.iaload, [], 0), (.aload_n 0, [], 0), (.iload_n 3, [], 0), (.iconst 2, [], 0), (.iadd, [], 0), (.iaload, [], 0), (.invokevirtual 118, [26, 3, 1, 6, 6], 0), (.aload_n 2, [], 0), (.aload_n 0, [], 0), (.iload_n 3, [], 0), (.iconst 1, [], 0), (.iadd, [], 0), (.iaload, [], 0), (.aload_n 0, [], 0), (.iload_n 3, [], 0), (.iconst 2, [], 0), (.iadd, [], 0), (.iaload, [], 0), (.invokevirtual 121, [129, 3, 1, 8, 7], 0), (.if_icmp .eq 268, [1187, 1, 1, 1, 1], 0), (.iconst 0, [], 0), (.ireturn, [1], 0)]),
  (924, [(.aload_n 1, [], 0), (.aload_n 0, [], 0), (.iload_n 3, [], 0), (.iconst 1, [], 0), (.iadd, [], 0), (.iaload, [], 0), (.aload_n 0, [], 0), (.iload_n 3, [], 0), (.iconst 2, [], 0), (.iadd, [], 0), (.iaload, [], 0), (.invokevirtual 122, [27, 3, 2, 3, 6], 0), (.aload_n 2, [], 0), (.aload_n 0, [], 0), (.iload_n 3, [], 0), (.iconst 1, [], 0), (.iadd, [], 0), (.iaload, [], 0), (.aload_n 0, [], 0), (.iload_n 3, [], 0), (.iconst 2, [], 0), (.iadd, [], 0), (.iaload, [], 0), (.invokevirtual 126, [130, 3, 2, 8, 7], 0), (.lcmp, [], 0), (.ifCond .eq 234, [1187, 1, 1, 1, 1], 0), (.iconst 0, [], 0), (.ireturn, [1], 0)]),
  (958, [(.aload_n 1, [], 0), (.aload_n 0, [], 0), (.iload_n 3, [], 0), (.iconst 1, [], 0), (.iadd, [], 0), (.iaload, [], 0), (.aload_n 0, [], 0), (.iload_n 3, [], 0), (.iconst 2, [], 0), (.iadd, [], 0), (.iaload, [], 0), (.invokevirtual 127, [28, 3, 1, 5, 6], 0), (.aload_n 2, [], 0), (.aload_n 0, [], 0), (.iload_n 3, [], 0), (.iconst 1, [], 0), (.iadd, [], 0), (.iaload, [], 0), (.aload_n 0, [], 0), (.iload_n 3, [], 0), (.iconst 2, [], 0), (.iadd, [], 0), (.iaload, [], 0), (.invokevirtual 130, [133, 3, 1, 3, 7], 0), (.if_icmp .eq 201, [1187, 1, 1, 1, 1], 0), (.iconst 0, [], 0), (.ireturn, [1], 0)]),
  (991, [(.aload_n 1, [], 0), (.aload_n 0, [], 0), (.iload_n 3, [], 0), (.iconst 1, [], 0), (.iadd, [], 0), (.iaload, [], 0), (.invokevirtual 131, [29, 2, 1, 8, 6], 0), (.aload_n 2, [], 0), (.aload_n 0, [], 0), (.iload_n 3, [], 0), (.iconst 1, [], 0), (.iadd, [], 0), (.iaload, [], 0), (.invokevirtual 134, [134, 2, 1, 7, 7], 0), (.if_icmp .eq 178, [1187, 1, 1, 1, 1], 0), (.iconst 0, [], 0), (.ireturn, [1], 0)]),
  (1014, [(.aload_n 1, [], 0), (.aload_n 0, [], 0), (.iload_n 3, [], 0), (.iconst 1, [], 0), (.iadd, [], 0), (.iaload, [], 0), (.aload_n 0, [], 0), (.iload_n 3, [], 0), (.iconst 2, [], 0), (.iadd, [], 0), (.iaload, [], 0), (.aload_n 0, [], 0), (.iload_n 3, [], 0), (.iconst 3, [], 0), (.iadd, [], 0), (.iaload, [], 0), (.aload_n 0, [], 0), (.iload_n 3, [], 0), (.iconst 4, [], 0), (.iadd, [], 0), (.iaload, [], 0), (.invokevirtual 135, [30, 5, 2, 8, 6], 0), (.aload_n 2, [], 0), (.aload_n 0, [], 0), (.iload_n 3, [], 0), (.iconst 1, [], 0), (.iadd, [], 0), (.iaload, [], 0), (.aload_n 0, [], 0), (.iload_n 3, [], 0), (.iconst 2, [], 0), (.iadd, [], 0), (.iaload, [], 0), (.aload_n 0, [], 0), (.iload_n 3, [], 0), (.iconst 3, [], 0), (.iadd, [], 0), (.iaload, [], 0), (.aload_n 0, [], 0), (.iload_n 3, [], 0), (.iconst 4, [], 0), (.iadd, [], 0), (.iaload, [], 0), (.invokevirtual 139, [135, 5, 2, 10, 7], 0), (.lcmp, [], 0), (.ifCond .eq 124, [1187, 1, 1, 1, 1], 0), (.iconst 0, [], 0), (.ireturn, [1], 0)]),
  (1068, [(.aload_n 1, [], 0), (.aload_n 0, [], 0), (.iload_n 3, [], 0), (.iconst 1, [], 0), (.iadd, [], 0), (.iaload, [], 0), (.aload_n 0, [], 0), (.iload_n 3, [], 0), (.iconst 2, [], 0), (.iadd, [], 0), (.iaload, [], 0), (.invokevirtual 140, [31, 3, 1, 4, 6], 0), (.aload_n 2, [], 0), (.aload_n 0, [], 0), (.iload_n 3, [], 0), (.iconst 1, [], 0), (.iadd, [], 0), (.iaload, [], 0), (.aload_n 0, [], 0), (.iload_n 3, [], 0), (.iconst 2, [], 0), (.iadd, [], 0), (.iaload, [], 0), (.invokevirtual 143, [137, 3, 1, 3, 7], 0), (.if_icmp .eq 91, [1187, 1, 1, 1, 1], 0), (.iconst 0, [], 0), (.ireturn, [1], 0)]),
  (1101, [(.aload_n 1, [], 0), (.aload_n 0, [], 0), (.iload_n 3, [], 0), (.iconst 1, [], 0), (.iadd, [], 0), (.iaload, [], 0), (.invokevirtual 144, [32, 2, 1, 5, 6], 0), (.aload_n 2, [], 0), (.aload_n 0, [], 0), (.iload_n 3, [], 0), (.iconst 1, [], 0), (.iadd, [], 0), (.iaload, [], 0), (.invokevirtual 147, [139, 2, 1, 2, 7], 0), (.if_icmp .eq 68, [1187, 1, 1, 1, 1], 0), (.iconst 0, [], 0), (.ireturn, [1], 0)]),
  (1124, [(.aload_n 1, [], 0), (.invokevirtual 148, [33, 1, 1, 1, 6], 0), (.aload_n 2, [], 0), (.invokevirtual 151, [140, 1, 1, 2, 7], 0), (.if_icmp .eq 55, [1187, 1, 1, 1, 1], 0), (.iconst 0, [], 0), (.ireturn, [1], 0)]),
  (1137, [(.aload_n 1, [], 0), (.invokevirtual 152, [34, 1, 1, 2, 6], 0), (.aload_n 2, [], 0), (.invokevirtual 155, [141, 1, 1, 2, 7], 0), (.if_icmp .eq 42, [1187, 1, 1, 1, 1], 0), (.iconst 0, [], 0), (.ireturn, [1], 0)]),
  (1150, [(.aload_n 1, [], 0), (.aload_n 0, [], 0), (.iload_n 3, [], 0), (.iconst 1, [], 0), (.iadd, [], 0), (.iaload, [], 0), (.invokevirtual 156, [35, 2, 1, 2, 6], 0), (.aload_n 2, [], 0), (.aload_n 0, [], 0), (.iload_n 3, [], 0), (.iconst 1, [], 0), (.iadd, [], 0), (.iaload, [], 0), (.invokevirtual 159, [143, 2, 1, 2, 7], 0), (.if_icmp .eq 19, [1187, 1, 1, 1, 1], 0), (.iconst 0, [], 0), (.ireturn, [1], 0)]),
  (1173, [(.aload_n 1, [], 0), (.invokevirtual 160, [36, 1, 2, 5, 6], 0), (.aload_n 2, [], 0), (.invokevirtual 164, [146, 1, 2, 3, 7], 0), (.lcmp, [], 0), (.ifCond .eq 5, [1187, 1, 1, 1, 1], 0), (.iconst 0, [], 0), (.ireturn, [1], 0)]),
  (1187, [(.iinc 3 6, [], 0), (.goto (-1172), [18, 1, 1, 1, 1], 0)]),
  (1193, [(.iconst 1, [], 0), (.ireturn, [1], 0)])]
/-- MindReaders.<init>()V -/
def zc_1 : List (Nat × List zE) := [(0, [(.aload_n 0, [], 0), (.invokespecial 3, [], 0), (.aload_n 0, [], 0), (.new 9, [5, 2, 2, 2, 2], 0), (.dup, [], 0), (.invokespecial 11, [187, 1, 0, 1, 5], 0), (.putfield 12, [6, 0, 2], 0), (.aload_n 0, [], 0), (.new 16, [3, 2, 0], 0), (.dup, [], 0), (.bipush 8, [], 0), (.invokespecial 18, [170, 2, 0, 2, 3], 0), (.putfield 21, [6, 1, 2], 0), (.aload_n 0, [], 0), (.iconst 4, [], 0), (.anewarray 25, [102], 0), (.putfield 27, [6, 2, 2], 0), (.aload_n 0, [], 0), (.new 16, [3, 2, 0], 0), (.dup, [], 0), (.bipush 48, [], 0), (.invokespecial 18, [170, 2, 0, 2, 3], 0), (.putfield 31, [6, 4, 2], 0), (.aload_n 0, [], 0), (.new 34, [1, 2, 2], 0), (.dup, [], 0), (.invokespecial 36, [158, 1, 0, 1, 1], 0), (.putfield 37, [6, 5, 2], 0), (.aload_n 0, [], 0), (.new 16, [3, 2, 0], 0), (.dup, [], 0), (.bipush 8, [], 0), (.invokespecial 18, [170, 2, 0, 2, 3], 0), (.putfield 41, [6, 6, 2], 0), (.aload_n 0, [], 0), (.new 34, [1, 2, 2], 0), (.dup, [], 0), (.invokespecial 36, [158, 1, 0, 1, 1], 0), (.putfield 44, [6, 7, 2], 0), (.aload_n 0, [], 0), (.new 16, [3, 2, 0], 0), (.dup, [], 0), (.bipush 48, [], 0), (.invokespecial 18, [170, 2, 0, 2, 3], 0), (.putfield 47, [6, 9, 2], 0), (.aload_n 0, [], 0), (.new 16, [3, 2, 0], 0), (.dup, [], 0), (.bipush 96, [], 0), (.invokespecial 18, [170, 2, 0, 2, 3], 0), (.putfield 50, [6, 10, 2], 0), (.aload_n 0, [], 0), (.new 16, [3, 2, 0], 0), (.dup, [], 0), (.bipush 8, [], 0), (.invokespecial 18, [170, 2, 0, 2, 3], 0), (.putfield 53, [6, 11, 2], 0), (.aload_n 0, [], 0), (.new 56, [4, 2, 2], 0), (.dup, [], 0), (.bipush 8, [], 0), (.bipush 10, [], 0), (.invokespecial 58, [185, 3, 0, 4, 4], 0), (.putfield 61, [6, 12, 2], 0), (.aload_n 0, [], 0), (.new 65, [2, 2, 0], 0), (.dup, [], 0), (.invokespecial 67, [165, 1, 0, 1, 2], 0), (.putfield 68, [6, 13, 2], 0), (.iconst 0, [], 0), (.istore_n 1, [], 0), (.nop, [151, 1, 1], 0)]),
  (151, [(.iload_n 1, [], 0), (.aload_n 0, [], 0), (.getfield 27, [6, 2, 2], 0), (.arraylength, [], 0), (.if_icmp .ge 22, [179], 0), (.aload_n 0, [], 0), (.getfield 27, [6, 2, 2], 0), (.iload_n 1, [], 0), (.new 25, [0, 2, 2, 0], 0), (.dup, [], 0), (.invokespecial 72, [147, 1, 0, 1, 0], 0), (.aastore, [102, 0], 0), (.iinc 1 1, [], 0), (.goto (-25), [151, 1, 1], 0)]),
  (179, [(.return_, [], 0)])]
/-- MindReaders.letters(J)I -/
def zc_2 : List (Nat × List zE) := [(0, [(.lload_n 1, [], 0), (.invokestatic 73, [41, 1, 1, 5], 0), (.istore_n 3, [], 0), (.iload_n 3, [], 0), (.iconst (-1), [], 0), (.if_icmp .ne 6, [13, 1, 1, 0, 1], 0), (.bipush (-102), [], 0), (.ireturn, [0], 0)]),
  (13, [(.aload_n 0, [], 0), (.getfield 31, [6, 4, 2], 0), (.invokevirtual 77, [171, 1, 1, 1, 3], 0), (.iload_n 3, [], 0), (.iadd, [], 0), (.bipush 48, [], 0), (.if_icmp .le 6, [30, 1, 1, 0, 1], 0), (.bipush (-104), [], 0), (.ireturn, [0], 0)]),
  (30, [(.iconst 0, [], 0), (.istore 4, [], 0), (.nop, [33, 1, 1, 0, 1, 1], 0)]),
  (33, [(.iload 4, [], 0), (.iload_n 3, [], 0), (.if_icmp .ge 22, [58, 1], 0), (.aload_n 0, [], 0), (.getfield 31, [6, 4, 2], 0), (.lload_n 1, [], 0), (.iload 4, [], 0), (.invokestatic 81, [40, 2, 1, 3], 0), (.invokevirtual 85, [174, 2, 0, 2, 3], 0), (.iinc 4 1, [], 0), (.goto (-22), [33, 1, 1, 0, 1, 1], 0)]),
  (58, [(.aload_n 0, [], 0), (.getfield 31, [6, 4, 2], 0), (.invokevirtual 77, [171, 1, 1, 1, 3], 0), (.ireturn, [0], 0)])]
/-- MindReaders.blank()I -/
def zc_3 : List (Nat × List zE) := [(0, [(.aload_n 0, [], 0), (.getfield 31, [6, 4, 2], 0), (.invokevirtual 77, [171, 1, 1, 1, 3], 0), (.istore_n 1, [], 0), (.aload_n 0, [], 0), (.getfield 31, [6, 4, 2], 0), (.invokevirtual 88, [176, 1, 0, 1, 3], 0), (.iload_n 1, [], 0), (.ireturn, [0], 0)])]
/-- MindReaders.fault()I -/
def zc_4 : List (Nat × List zE) := [(0, [(.aload_n 0, [], 0), (.invokevirtual 91, [43, 1, 1, 5, 6], 0), (.ireturn, [0], 0)])]
/-- MindReaders.code()I -/
def zc_5 : List (Nat × List zE) := [(0, [(.aload_n 0, [], 0), (.getfield 31, [6, 4, 2], 0), (.aload_n 0, [], 0), (.getfield 31, [6, 4, 2], 0), (.invokevirtual 77, [171, 1, 1, 1, 3], 0), (.iconst 1, [], 0), (.isub, [], 0), (.invokevirtual 94, [172, 2, 1, 2, 3], 0), (.invokestatic 98, [42, 1, 1, 1], 0), (.iconst (-1), [], 0), (.if_icmp .eq 7, [27, 1], 0), (.iconst 1, [], 0), (.goto 4, [28, 1], 0)]),
  (27, [(.iconst 0, [], 0), (.nop, [28, 1], 0)]),
  (28, [(.istore_n 1, [], 0), (.iload_n 1, [], 0), (.ifCond .eq 17, [47], 0), (.aload_n 0, [], 0), (.invokevirtual 91, [43, 1, 1, 5, 6], 0), (.aload_n 0, [], 0), (.getfield 31, [6, 4, 2], 0), (.invokevirtual 77, [171, 1, 1, 1, 3], 0), (.if_icmp .ge 6, [50, 1], 0), (.nop, [47], 0)]),
  (47, [(.bipush (-103), [], 0), (.ireturn, [0], 0)]),
  (50, [(.aload_n 0, [], 0), (.getfield 101, [6, 3, 0], 0), (.ifCond .lt 15, [69], 0), (.aload_n 0, [], 0), (.getfield 101, [6, 3, 0], 0), (.aload_n 0, [], 0), (.getfield 27, [6, 2, 2], 0), (.arraylength, [], 0), (.if_icmp .lt 6, [72, 1], 0), (.nop, [69], 0)]),
  (69, [(.bipush (-104), [], 0), (.ireturn, [0], 0)]),
  (72, [(.aload_n 0, [], 0), (.getfield 27, [6, 2, 2], 0), (.aload_n 0, [], 0), (.getfield 101, [6, 3, 0], 0), (.aaload, [102], 0), (.astore_n 2, [], 0), (.aload_n 2, [], 0), (.ifnonnull 6, [89, 1, 0, 1], 0), (.bipush (-104), [], 0), (.ireturn, [0], 0)]),
  (89, [(.aload_n 2, [], 0), (.aload_n 0, [], 0), (.getfield 31, [6, 4, 2], 0), (.invokevirtual 105, [151, 2, 0, 4, 0], 0), (.aload_n 2, [], 0), (.aload_n 0, [], 0), (.getfield 12, [6, 0, 2], 0), (.invokevirtual 109, [152, 2, 0, 3, 0], 0), (.aload_n 0, [], 0), (.getfield 31, [6, 4, 2], 0), (.invokevirtual 88, [176, 1, 0, 1, 3], 0), (.aload_n 0, [], 0), (.dup, [], 0), (.getfield 101, [6, 3, 0], 0), (.iconst 1, [], 0), (.iadd, [], 0), (.putfield 101, [6, 3, 0], 0), (.aload_n 0, [], 0), (.getfield 101, [6, 3, 0], 0), (.iconst 1, [], 0), (.isub, [], 0), (.ireturn, [0], 0)])]
/-- MindReaders.signal(IIII)I -/
def zc_6 : List (Nat × List zE) := [(0, [(.iload_n 1, [], 0), (.ifCond .lt 8, [9], 0), (.iload_n 1, [], 0), (.iconst 4, [], 0), (.if_icmp .le 6, [12, 1, 1, 1, 1, 1], 0), (.nop, [9], 0)]),
  (9, [(.bipush (-102), [], 0), (.ireturn, [0], 0)]),
  (12, [(.aload_n 0, [], 0), (.getfield 12, [6, 0, 2], 0), (.iload_n 1, [], 0), (.iload_n 2, [], 0), (.invokevirtual 113, [195, 3, 1, 3, 5], 0), (.ifCond .ne 6, [27, 1, 1, 1, 1, 1], 0), (.bipush (-101), [], 0), (.ireturn, [0], 0)]),
  (27, [(.iload_n 3, [], 0), (.iconst 1, [], 0), (.if_icmp .lt 21, [50], 0), (.iload_n 3, [], 0), (.bipush 9, [], 0), (.if_icmp .gt 15, [50], 0), (.iload 4, [], 0), (.ifCond .lt 10, [50], 0), (.iload 4, [], 0), (.bipush 9, [], 0), (.if_icmp .le 6, [53, 1, 1, 1, 1, 1], 0), (.nop, [50], 0)]),
  (50, [(.bipush (-102), [], 0), (.ireturn, [0], 0)]),
  (53, [(.aload_n 0, [], 0), (.getfield 12, [6, 0, 2], 0), (.invokevirtual 117, [188, 1, 1, 1, 5], 0), (.bipush 8, [], 0), (.if_icmp .lt 6, [68, 1, 1, 1, 1, 1], 0), (.bipush (-104), [], 0), (.ireturn, [0], 0)]),
  (68, [(.aload_n 0, [], 0), (.getfield 12, [6, 0, 2], 0), (.iload_n 1, [], 0), (.iload_n 2, [], 0), (.iload_n 3, [], 0), (.iload 4, [], 0), (.invokevirtual 120, [190, 5, 0, 5, 5], 0), (.iconst 0, [], 0), (.istore 5, [], 0), (.nop, [83, 1, 0, 0, 0, 0, 1], 0)]),
  (83, [(.iload 5, [], 0), (.aload_n 0, [], 0), (.getfield 101, [6, 3, 0], 0), (.if_icmp .ge 31, [120, 1], 0), (.aload_n 0, [], 0), (.iload 5, [], 0), (.invokevirtual 124, [49, 2, 3, 2, 6], 0), (.astore 6, [], 0), (.aload 6, [], 0), (.ifnull 12, [114, 1, 0, 0, 0, 0, 1], 0), (.aload 6, [], 0), (.aload_n 0, [], 0), (.getfield 12, [6, 0, 2], 0), (.invokevirtual 109, [152, 2, 0, 3, 0], 0), (.nop, [114, 1, 0, 0, 0, 0, 1], 0)]),
  (114, [(.iinc 5 1, [], 0), (.goto (-34), [83, 1, 0, 0, 0, 0, 1], 0)]),
  (120, [(.aload_n 0, [], 0), (.getfield 12, [6, 0, 2], 0), (.invokevirtual 117, [188, 1, 1, 1, 5], 0), (.iconst 1, [], 0), (.isub, [], 0), (.ireturn, [0], 0)])]
/-- MindReaders.as(II)I -/
def zc_7 : List (Nat × List zE) := [(0, [(.aload_n 0, [], 0), (.getfield 12, [6, 0, 2], 0), (.iload_n 1, [], 0), (.invokevirtual 128, [189, 2, 1, 2, 5], 0), (.ifCond .ne 6, [14, 1, 1, 1], 0), (.bipush (-101), [], 0), (.ireturn, [0], 0)]),
  (14, [(.iload_n 2, [], 0), (.ifCond .lt 8, [23], 0), (.iload_n 2, [], 0), (.iconst 4, [], 0), (.if_icmp .le 6, [26, 1, 1, 1], 0), (.nop, [23], 0)]),
  (23, [(.bipush (-102), [], 0), (.ireturn, [0], 0)]),
  (26, [(.aload_n 0, [], 0), (.getfield 12, [6, 0, 2], 0), (.iload_n 1, [], 0), (.invokevirtual 132, [191, 2, 1, 3, 5], 0), (.istore_n 3, [], 0), (.iload_n 2, [], 0), (.iload_n 3, [], 0), (.if_icmp .eq 17, [54, 0, 1], 0), (.iload_n 2, [], 0), (.ifCond .eq 13, [54, 0, 1], 0), (.iload_n 2, [], 0), (.iconst 1, [], 0), (.if_icmp .ne 12, [58, 0, 1], 0), (.iload_n 3, [], 0), (.iconst 2, [], 0), (.if_icmp .ne 7, [58, 0, 1], 0), (.nop, [54, 0, 1], 0)]),
  (54, [(.iconst 1, [], 0), (.goto 4, [59, 0, 1], 0)]),
  (58, [(.iconst 0, [], 0), (.nop, [59, 0, 1], 0)]),
  (59, [(.istore 4, [], 0), (.iload 4, [], 0), (.ifCond .eq 7, [70], 0), (.iload_n 1, [], 0), (.goto 4, [71], 0)]),
  (70, [(.iconst (-1), [], 0), (.nop, [71], 0)]),
  (71, [(.ireturn, [0], 0)])]
/-- MindReaders.about(II)I -/
def zc_8 : List (Nat × List zE) := [(0, [(.aload_n 0, [], 0), (.getfield 12, [6, 0, 2], 0), (.iload_n 1, [], 0), (.invokevirtual 128, [189, 2, 1, 2, 5], 0), (.ifCond .ne 6, [14, 1, 1, 1], 0), (.bipush (-101), [], 0), (.ireturn, [0], 0)]),
  (14, [(.iload_n 2, [], 0), (.tableswitch 65 0 3 #[29, 38, 47, 56], [2, 80, 1, 1, 44, 53, 62, 71], 29)]),
  (44, [(.aload_n 0, [], 0), (.getfield 12, [6, 0, 2], 0), (.iload_n 1, [], 0), (.invokevirtual 132, [191, 2, 1, 3, 5], 0), (.ireturn, [0], 0)]),
  (53, [(.aload_n 0, [], 0), (.getfield 12, [6, 0, 2], 0), (.iload_n 1, [], 0), (.invokevirtual 135, [192, 2, 1, 2, 5], 0), (.ireturn, [0], 0)]),
  (62, [(.aload_n 0, [], 0), (.getfield 12, [6, 0, 2], 0), (.iload_n 1, [], 0), (.invokevirtual 138, [193, 2, 1, 3, 5], 0), (.ireturn, [0], 0)]),
  (71, [(.aload_n 0, [], 0), (.getfield 12, [6, 0, 2], 0), (.iload_n 1, [], 0), (.invokevirtual 141, [194, 2, 1, 3, 5], 0), (.ireturn, [0], 0)]),
  (80, [(.bipush (-102), [], 0), (.ireturn, [0], 0)])]
/-- MindReaders.thing(I)I -/
def zc_9 : List (Nat × List zE) := [(0, [(.iload_n 1, [], 0), (.invokestatic 144, [46, 1, 1, 1], 0), (.ifCond .ne 6, [10, 1, 1], 0), (.bipush (-102), [], 0), (.ireturn, [0], 0)]),
  (10, [(.aload_n 0, [], 0), (.getfield 21, [6, 1, 2], 0), (.invokevirtual 77, [171, 1, 1, 1, 3], 0), (.bipush 8, [], 0), (.if_icmp .lt 6, [25, 1, 1], 0), (.bipush (-104), [], 0), (.ireturn, [0], 0)]),
  (25, [(.aload_n 0, [], 0), (.getfield 21, [6, 1, 2], 0), (.iload_n 1, [], 0), (.invokevirtual 85, [174, 2, 0, 2, 3], 0), (.aload_n 0, [], 0), (.getfield 21, [6, 1, 2], 0), (.invokevirtual 77, [171, 1, 1, 1, 3], 0), (.iconst 1, [], 0), (.isub, [], 0), (.ireturn, [0], 0)])]
/-- MindReaders.weigh(II)I -/
def zc_10 : List (Nat × List zE) := [(0, [(.aload_n 0, [], 0), (.iload_n 1, [], 0), (.invokevirtual 147, [48, 2, 1, 2, 6], 0), (.ifCond .ne 6, [11, 1, 1, 1], 0), (.bipush (-101), [], 0), (.ireturn, [0], 0)]),
  (11, [(.iload_n 2, [], 0), (.invokestatic 144, [46, 1, 1, 1], 0), (.ifCond .ne 6, [21, 1, 1, 1], 0), (.bipush (-102), [], 0), (.ireturn, [0], 0)]),
  (21, [(.aload_n 0, [], 0), (.getfield 21, [6, 1, 2], 0), (.iload_n 1, [], 0), (.invokevirtual 94, [172, 2, 1, 2, 3], 0), (.istore_n 3, [], 0), (.aload_n 0, [], 0), (.getfield 21, [6, 1, 2], 0), (.iload_n 1, [], 0), (.iload_n 2, [], 0), (.invokevirtual 150, [173, 3, 0, 3, 3], 0), (.iload_n 3, [], 0), (.ireturn, [0], 0)])]
/-- MindReaders.speech(III)I -/
def zc_11 : List (Nat × List zE) := [(0, [(.aload_n 0, [], 0), (.iload_n 1, [], 0), (.invokevirtual 124, [49, 2, 3, 2, 6], 0), (.astore 4, [], 0), (.aload 4, [], 0), (.ifnull 16, [25], 0), (.iload_n 2, [], 0), (.ifCond .lt 12, [25], 0), (.iload_n 2, [], 0), (.aload 4, [], 0), (.invokevirtual 153, [148, 1, 1, 1, 0], 0), (.if_icmp .lt 6, [28, 1, 0, 1, 1, 1], 0), (.nop, [25], 0)]),
  (25, [(.bipush (-101), [], 0), (.ireturn, [0], 0)]),
  (28, [(.iload_n 3, [], 0), (.ifCond .ne 13, [42, 1, 0, 1, 1, 1], 0), (.aload 4, [], 0), (.iload_n 2, [], 0), (.invokevirtual 154, [149, 2, 3, 2, 0], 0), (.invokevirtual 77, [171, 1, 1, 1, 3], 0), (.ireturn, [0], 0)]),
  (42, [(.iload_n 3, [], 0), (.iconst 1, [], 0), (.if_icmp .lt 21, [65, 1, 0, 1, 1, 1], 0), (.iload_n 3, [], 0), (.iconst 5, [], 0), (.if_icmp .gt 16, [65, 1, 0, 1, 1, 1], 0), (.aload 4, [], 0), (.iload_n 2, [], 0), (.invokevirtual 154, [149, 2, 3, 2, 0], 0), (.iload_n 3, [], 0), (.iconst 1, [], 0), (.isub, [], 0), (.invokevirtual 94, [172, 2, 1, 2, 3], 0), (.ireturn, [0], 0)]),
  (65, [(.iload_n 3, [], 0), (.bipush 10, [], 0), (.if_icmp .ne 13, [81, 1, 0, 1, 1, 1], 0), (.aload 4, [], 0), (.iload_n 2, [], 0), (.invokevirtual 158, [150, 2, 3, 2, 0], 0), (.invokevirtual 77, [171, 1, 1, 1, 3], 0), (.ireturn, [0], 0)]),
  (81, [(.iload_n 3, [], 0), (.bipush 10, [], 0), (.if_icmp .le 23, [107, 1, 0, 1, 1, 1], 0), (.iload_n 3, [], 0), (.bipush 20, [], 0), (.if_icmp .gt 17, [107, 1, 0, 1, 1, 1], 0), (.aload 4, [], 0), (.iload_n 2, [], 0), (.invokevirtual 158, [150, 2, 3, 2, 0], 0), (.iload_n 3, [], 0), (.bipush 11, [], 0), (.isub, [], 0), (.invokevirtual 94, [172, 2, 1, 2, 3], 0), (.ireturn, [0], 0)]),
  (107, [(.iload_n 3, [], 0), (.bipush 30, [], 0), (.if_icmp .ne 13, [123], 0), (.aload_n 0, [], 0), (.aload 4, [], 0), (.iload_n 2, [], 0), (.invokevirtual 161, [51, 3, 1, 3, 6], 0), (.goto 5, [125], 0)]),
  (123, [(.bipush (-102), [], 0), (.nop, [125], 0)]),
  (125, [(.ireturn, [0], 0)])]
/-- MindReaders.means(I)I -/
def zc_12 : List (Nat × List zE) := [(0, [(.aload_n 0, [], 0), (.iload_n 1, [], 0), (.invokevirtual 124, [49, 2, 3, 2, 6], 0), (.astore_n 2, [], 0), (.aload_n 2, [], 0), (.ifnonnull 6, [13, 1, 0, 1], 0), (.bipush (-101), [], 0), (.ireturn, [0], 0)]),
  (13, [(.aload_n 0, [], 0), (.invokevirtual 165, [45, 1, 1, 1, 6], 0), (.ifCond .eq 14, [31], 0), (.aload_n 2, [], 0), (.aload_n 0, [], 0), (.getfield 50, [6, 10, 2], 0), (.invokevirtual 169, [153, 2, 1, 3, 0], 0), (.goto 5, [33], 0)]),
  (31, [(.bipush (-103), [], 0), (.nop, [33], 0)]),
  (33, [(.ireturn, [0], 0)])]
/-- MindReaders.clear(II)I -/
def zc_13 : List (Nat × List zE) := [(0, [(.aload_n 0, [], 0), (.iload_n 1, [], 0), (.invokevirtual 124, [49, 2, 3, 2, 6], 0), (.astore_n 3, [], 0), (.aload_n 3, [], 0), (.ifnonnull 6, [13, 0, 0, 1, 1], 0), (.bipush (-101), [], 0), (.ireturn, [0], 0)]),
  (13, [(.iload_n 2, [], 0), (.ifCond .lt 8, [22], 0), (.iload_n 2, [], 0), (.iconst 2, [], 0), (.if_icmp .le 6, [25, 0, 0, 1, 1], 0), (.nop, [22], 0)]),
  (22, [(.bipush (-102), [], 0), (.ireturn, [0], 0)]),
  (25, [(.aload_n 3, [], 0), (.invokevirtual 173, [154, 1, 1, 3, 0], 0), (.istore 4, [], 0), (.iload_n 2, [], 0), (.ifCond .ne 15, [47, 0, 0, 1, 0, 1], 0), (.iload 4, [], 0), (.iconst (-1), [], 0), (.if_icmp .ne 7, [45], 0), (.iconst 1, [], 0), (.goto 4, [46], 0)]),
  (45, [(.iconst 0, [], 0), (.nop, [46], 0)]),
  (46, [(.ireturn, [0], 0)]),
  (47, [(.iload 4, [], 0), (.iload_n 2, [], 0), (.iconst 1, [], 0), (.isub, [], 0), (.invokestatic 176, [52, 2, 1, 2], 0), (.ireturn, [0], 0)])]
/-- MindReaders.starts(II)I -/
def zc_14 : List (Nat × List zE) := [(0, [(.aload_n 0, [], 0), (.iload_n 1, [], 0), (.invokevirtual 124, [49, 2, 3, 2, 6], 0), (.astore_n 3, [], 0), (.aload_n 3, [], 0), (.ifnonnull 6, [13, 0, 0, 1, 1], 0), (.bipush (-101), [], 0), (.ireturn, [0], 0)]),
  (13, [(.iload_n 2, [], 0), (.ifCond .lt 8, [22], 0), (.iload_n 2, [], 0), (.iconst 1, [], 0), (.if_icmp .le 6, [25, 0, 0, 1, 1], 0), (.nop, [22], 0)]),
  (22, [(.bipush (-102), [], 0), (.ireturn, [0], 0)]),
  (25, [(.aload_n 3, [], 0), (.invokevirtual 180, [155, 1, 1, 3, 0], 0), (.iload_n 2, [], 0), (.invokestatic 176, [52, 2, 1, 2], 0), (.ireturn, [0], 0)])]
/-- MindReaders.twice(I)I -/
def zc_15 : List (Nat × List zE) := [(0, [(.aload_n 0, [], 0), (.iload_n 1, [], 0), (.invokevirtual 124, [49, 2, 3, 2, 6], 0), (.astore_n 2, [], 0), (.aload_n 2, [], 0), (.ifnonnull 8, [15, 1, 0, 1], 0), (.bipush (-101), [], 0), (.goto 11, [23], 0)]),
  (15, [(.aload_n 0, [], 0), (.getfield 68, [6, 13, 2], 0), (.aload_n 2, [], 0), (.invokevirtual 183, [166, 2, 1, 4, 2], 0), (.nop, [23], 0)]),
  (23, [(.ireturn, [0], 0)])]
/-- MindReaders.mean(II)I -/
def zc_16 : List (Nat × List zE) := [(0, [(.aload_n 0, [], 0), (.iload_n 1, [], 0), (.invokevirtual 124, [49, 2, 3, 2, 6], 0), (.astore_n 3, [], 0), (.aload_n 3, [], 0), (.ifnonnull 6, [13, 1, 0, 1, 1], 0), (.bipush (-101), [], 0), (.ireturn, [0], 0)]),
  (13, [(.iload_n 2, [], 0), (.invokestatic 187, [47, 1, 1, 1], 0), (.ifCond .ne 6, [23, 1, 0, 1, 1], 0), (.bipush (-102), [], 0), (.ireturn, [0], 0)]),
  (23, [(.aload_n 0, [], 0), (.aload_n 3, [], 0), (.invokevirtual 190, [50, 2, 1, 2, 6], 0), (.istore 4, [], 0), (.iload 4, [], 0), (.ifCond .ne 6, [38, 1, 0, 1, 1, 1], 0), (.bipush (-103), [], 0), (.ireturn, [0], 0)]),
  (38, [(.lconst 0, [], 0), (.lstore 5, [], 0), (.iconst 0, [], 0), (.istore 7, [], 0), (.nop, [44, 1, 0, 1, 1, 1, 1, 0, 1], 0)]),
  (44, [(.iload 7, [], 0), (.iload 4, [], 0), (.if_icmp .ge 32, [80, 1, 0, 1, 0, 1, 1], 0), (.lload 5, [], 0), (.aload_n 0, [], 0), (.getfield 21, [6, 1, 2], 0), (.iload 7, [], 0), (.invokevirtual 94, [172, 2, 1, 2, 3], 0), (.aload_n 0, [], 0), (.aload_n 3, [], 0), (.iload 7, [], 0), (.invokevirtual 161, [51, 3, 1, 3, 6], 0), (.imul, [], 0), (.i2l, [], 0), (.ladd, [], 0), (.lstore 5, [], 0), (.iinc 7 1, [], 0), (.goto (-33), [44, 1, 0, 1, 1, 1, 1, 0, 1], 0)]),
  (80, [(.lload 5, [], 0), (.aload_n 0, [], 0), (.getfield 21, [6, 1, 2], 0), (.iload 4, [], 0), (.invokevirtual 193, [182, 2, 1, 4, 3], 0), (.i2l, [], 0), (.iload_n 2, [], 0), (.invokestatic 196, [64, 3, 2, 12], 0), (.l2i, [], 0), (.ireturn, [0], 0)])]
/-- MindReaders.oddness(I)I -/
def zc_17 : List (Nat × List zE) := [(0, [(.aload_n 0, [], 0), (.iload_n 1, [], 0), (.invokevirtual 124, [49, 2, 3, 2, 6], 0), (.astore_n 2, [], 0), (.aload_n 2, [], 0), (.ifnonnull 6, [13, 1, 0, 1], 0), (.bipush (-101), [], 0), (.ireturn, [0], 0)]),
  (13, [(.aload_n 0, [], 0), (.aload_n 2, [], 0), (.invokevirtual 190, [50, 2, 1, 2, 6], 0), (.istore_n 3, [], 0), (.iconst 0, [], 0), (.istore 4, [], 0), (.iconst 0, [], 0), (.istore 5, [], 0), (.nop, [25, 1, 0, 1, 1, 1, 1], 0)]),
  (25, [(.iload 5, [], 0), (.iload_n 3, [], 0), (.if_icmp .ge 37, [65, 0, 0, 0, 0, 1], 0), (.iload 4, [], 0), (.aload_n 0, [], 0), (.getfield 21, [6, 1, 2], 0), (.iload 5, [], 0), (.invokevirtual 94, [172, 2, 1, 2, 3], 0), (.aload_n 0, [], 0), (.getfield 12, [6, 0, 2], 0), (.aload_n 2, [], 0), (.iload 5, [], 0), (.invokevirtual 154, [149, 2, 3, 2, 0], 0), (.invokevirtual 200, [197, 2, 1, 4, 5], 0), (.imul, [], 0), (.iadd, [], 0), (.istore 4, [], 0), (.iinc 5 1, [], 0), (.goto (-37), [25, 1, 0, 1, 1, 1, 1], 0)]),
  (65, [(.iload 4, [], 0), (.ireturn, [0], 0)])]
/-- MindReaders.dealt(II)I -/
def zc_18 : List (Nat × List zE) := [(0, [(.aload_n 0, [], 0), (.iload_n 1, [], 0), (.invokevirtual 124, [49, 2, 3, 2, 6], 0), (.astore_n 3, [], 0), (.aload_n 3, [], 0), (.ifnonnull 6, [13, 1, 0, 1, 1], 0), (.bipush (-101), [], 0), (.ireturn, [0], 0)]),
  (13, [(.iload_n 2, [], 0), (.invokestatic 187, [47, 1, 1, 1], 0), (.ifCond .ne 18, [35, 1, 0, 1, 1], 0), (.iload_n 2, [], 0), (.bipush 10, [], 0), (.if_icmp .lt 9, [32], 0), (.iload_n 2, [], 0), (.bipush 18, [], 0), (.if_icmp .lt 6, [35, 1, 0, 1, 1], 0), (.nop, [32], 0)]),
  (32, [(.bipush (-102), [], 0), (.ireturn, [0], 0)]),
  (35, [(.aload_n 0, [], 0), (.aload_n 3, [], 0), (.invokevirtual 190, [50, 2, 1, 2, 6], 0), (.istore 4, [], 0), (.iload 4, [], 0), (.ifCond .ne 6, [50, 1, 0, 1, 1, 1], 0), (.bipush (-103), [], 0), (.ireturn, [0], 0)]),
  (50, [(.iload_n 2, [], 0), (.bipush 10, [], 0), (.if_icmp .lt 13, [66, 1, 0, 1, 1, 1], 0), (.aload_n 0, [], 0), (.aload_n 3, [], 0), (.iload_n 2, [], 0), (.bipush 10, [], 0), (.isub, [], 0), (.invokevirtual 203, [53, 3, 1, 6, 6], 0), (.ireturn, [0], 0)]),
  (66, [(.lconst 0, [], 0), (.lstore 5, [], 0), (.iconst 0, [], 0), (.istore 7, [], 0), (.nop, [72, 1, 0, 1, 1, 1, 1, 0, 1], 0)]),
  (72, [(.iload 7, [], 0), (.iload 4, [], 0), (.if_icmp .ge 37, [113, 1, 0, 1, 0, 1, 1], 0), (.lload 5, [], 0), (.aload_n 0, [], 0), (.getfield 21, [6, 1, 2], 0), (.iload 7, [], 0), (.invokevirtual 94, [172, 2, 1, 2, 3], 0), (.aload_n 0, [], 0), (.aload_n 3, [], 0), (.aload_n 0, [], 0), (.aload_n 3, [], 0), (.iload 7, [], 0), (.invokevirtual 203, [53, 3, 1, 6, 6], 0), (.invokevirtual 161, [51, 3, 1, 3, 6], 0), (.imul, [], 0), (.i2l, [], 0), (.ladd, [], 0), (.lstore 5, [], 0), (.iinc 7 1, [], 0), (.goto (-38), [72, 1, 0, 1, 1, 1, 1, 0, 1], 0)]),
  (113, [(.lload 5, [], 0), (.aload_n 0, [], 0), (.getfield 21, [6, 1, 2], 0), (.iload 4, [], 0), (.invokevirtual 193, [182, 2, 1, 4, 3], 0), (.i2l, [], 0), (.iload_n 2, [], 0), (.invokestatic 196, [64, 3, 2, 12], 0), (.l2i, [], 0), (.ireturn, [0], 0)])]
/-- MindReaders.shortest(II)I -/
def zc_19 : List (Nat × List zE) := [(0, [(.iload_n 1, [], 0), (.iconst 2, [], 0), (.if_icmp .lt 16, [18], 0), (.iload_n 1, [], 0), (.bipush 8, [], 0), (.if_icmp .gt 10, [18], 0), (.iload_n 2, [], 0), (.invokestatic 187, [47, 1, 1, 1], 0), (.ifCond .ne 6, [21, 1, 1, 1], 0), (.nop, [18], 0)]),
  (18, [(.bipush (-102), [], 0), (.ireturn, [0], 0)]),
  (21, [(.aload_n 0, [], 0), (.getfield 21, [6, 1, 2], 0), (.invokevirtual 77, [171, 1, 1, 1, 3], 0), (.ifCond .ne 6, [34, 1, 1, 1], 0), (.bipush (-103), [], 0), (.ireturn, [0], 0)]),
  (34, [(.aload_n 0, [], 0), (.iload_n 1, [], 0), (.invokevirtual 206, [58, 2, 2, 8, 6], 0), (.aload_n 0, [], 0), (.getfield 21, [6, 1, 2], 0), (.aload_n 0, [], 0), (.getfield 21, [6, 1, 2], 0), (.invokevirtual 77, [171, 1, 1, 1, 3], 0), (.invokevirtual 193, [182, 2, 1, 4, 3], 0), (.i2l, [], 0), (.iload_n 2, [], 0), (.invokestatic 196, [64, 3, 2, 12], 0), (.l2i, [], 0), (.ireturn, [0], 0)])]
/-- MindReaders.apart(I)I -/
def zc_20 : List (Nat × List zE) := [(0, [(.aload_n 0, [], 0), (.iload_n 1, [], 0), (.invokevirtual 124, [49, 2, 3, 2, 6], 0), (.astore_n 2, [], 0), (.aload_n 2, [], 0), (.ifnonnull 8, [15, 0, 0, 1], 0), (.bipush (-101), [], 0), (.goto 7, [19], 0)]),
  (15, [(.aload_n 2, [], 0), (.invokevirtual 210, [156, 1, 1, 5, 0], 0), (.nop, [19], 0)]),
  (19, [(.ireturn, [0], 0)])]
/-- MindReaders.named(I)I -/
def zc_21 : List (Nat × List zE) := [(0, [(.aload_n 0, [], 0), (.iload_n 1, [], 0), (.invokevirtual 124, [49, 2, 3, 2, 6], 0), (.astore_n 2, [], 0), (.aload_n 2, [], 0), (.ifnonnull 6, [13, 1, 0, 1], 0), (.bipush (-101), [], 0), (.ireturn, [0], 0)]),
  (13, [(.aload_n 0, [], 0), (.invokevirtual 165, [45, 1, 1, 1, 6], 0), (.ifCond .eq 14, [31], 0), (.aload_n 2, [], 0), (.aload_n 0, [], 0), (.getfield 50, [6, 10, 2], 0), (.invokevirtual 213, [157, 2, 1, 6, 0], 0), (.goto 5, [33], 0)]),
  (31, [(.bipush (-103), [], 0), (.nop, [33], 0)]),
  (33, [(.ireturn, [0], 0)])]
/-- MindReaders.right(IIIII)J -/
def zc_22 : List (Nat × List zE) := [(0, [(.aload_n 0, [], 0), (.iload_n 1, [], 0), (.invokevirtual 124, [49, 2, 3, 2, 6], 0), (.astore 6, [], 0), (.aload 6, [], 0), (.ifnull 17, [26], 0), (.iload_n 2, [], 0), (.ifCond .lt 13, [26], 0), (.iload_n 2, [], 0), (.aload_n 0, [], 0), (.aload 6, [], 0), (.invokevirtual 190, [50, 2, 1, 2, 6], 0), (.if_icmp .lt 7, [30, 1, 0, 1, 1, 1, 1, 1], 0), (.nop, [26], 0)]),
  (26, [(.ldc2_w 216, [], -101), (.lreturn, [], 0)]),
  (30, [(.iload_n 3, [], 0), (.iconst 2, [], 0), (.if_icmp .lt 29, [61], 0), (.iload_n 3, [], 0), (.bipush 8, [], 0), (.if_icmp .gt 23, [61], 0), (.iload 4, [], 0), (.ifCond .lt 18, [61], 0), (.iload 4, [], 0), (.bipush 10, [], 0), (.if_icmp .gt 11, [61], 0), (.iload 5, [], 0), (.invokestatic 187, [47, 1, 1, 1], 0), (.ifCond .ne 7, [65, 1, 0, 1, 1, 1, 1, 1], 0), (.nop, [61], 0)]),
  (61, [(.ldc2_w 218, [], -102), (.lreturn, [], 0)]),
  (65, [(.aload 6, [], 0), (.iload_n 2, [], 0), (.invokevirtual 158, [150, 2, 3, 2, 0], 0), (.astore 7, [], 0), (.aload 7, [], 0), (.invokevirtual 77, [171, 1, 1, 1, 3], 0), (.iconst 4, [], 0), (.if_icmp .gt 12, [91], 0), (.aload 7, [], 0), (.iload_n 3, [], 0), (.invokevirtual 220, [181, 2, 1, 3, 3], 0), (.ifCond .ne 7, [95, 1, 0, 1, 1, 1, 1, 1, 1], 0), (.nop, [91], 0)]),
  (91, [(.ldc2_w 223, [], -103), (.lreturn, [], 0)]),
  (95, [(.aload_n 0, [], 0), (.aload 6, [], 0), (.iload_n 2, [], 0), (.iload_n 3, [], 0), (.iload 4, [], 0), (.invokevirtual 225, [59, 5, 2, 13, 6], 0), (.bipush 10, [], 0), (.iload_n 3, [], 0), (.iconst 1, [], 0), (.isub, [], 0), (.imul, [], 0), (.i2l, [], 0), (.aload 7, [], 0), (.invokevirtual 77, [171, 1, 1, 1, 3], 0), (.invokestatic 229, [63, 2, 2, 6], 0), (.iload 5, [], 0), (.invokestatic 196, [64, 3, 2, 12], 0), (.lreturn, [], 0)])]
/-- MindReaders.note(I)I -/
def zc_23 : List (Nat × List zE) := [(0, [(.aload_n 0, [], 0), (.iload_n 1, [], 0), (.invokevirtual 147, [48, 2, 1, 2, 6], 0), (.ifCond .ne 6, [11, 1, 1], 0), (.bipush (-101), [], 0), (.ireturn, [0], 0)]),
  (11, [(.aload_n 0, [], 0), (.invokevirtual 233, [44, 1, 1, 3, 6], 0), (.ifCond .eq 15, [30], 0), (.aload_n 0, [], 0), (.getfield 47, [6, 9, 2], 0), (.invokevirtual 77, [171, 1, 1, 1, 3], 0), (.bipush 8, [], 0), (.if_icmp .le 6, [33, 1, 1], 0), (.nop, [30], 0)]),
  (30, [(.bipush (-103), [], 0), (.ireturn, [0], 0)]),
  (33, [(.aload_n 0, [], 0), (.getfield 37, [6, 5, 2], 0), (.invokevirtual 236, [159, 1, 1, 1, 1], 0), (.bipush 10, [], 0), (.if_icmp .lt 6, [48, 1, 1], 0), (.bipush (-104), [], 0), (.ireturn, [0], 0)]),
  (48, [(.aload_n 0, [], 0), (.getfield 37, [6, 5, 2], 0), (.iload_n 1, [], 0), (.aload_n 0, [], 0), (.getfield 47, [6, 9, 2], 0), (.invokevirtual 237, [162, 3, 0, 3, 1], 0), (.aload_n 0, [], 0), (.getfield 31, [6, 4, 2], 0), (.invokevirtual 88, [176, 1, 0, 1, 3], 0), (.aload_n 0, [], 0), (.getfield 37, [6, 5, 2], 0), (.invokevirtual 236, [159, 1, 1, 1, 1], 0), (.ireturn, [0], 0)])]
/-- MindReaders.forget()I -/
def zc_24 : List (Nat × List zE) := [(0, [(.aload_n 0, [], 0), (.getfield 37, [6, 5, 2], 0), (.invokevirtual 236, [159, 1, 1, 1, 1], 0), (.istore_n 1, [], 0), (.aload_n 0, [], 0), (.getfield 37, [6, 5, 2], 0), (.invokevirtual 240, [163, 1, 0, 1, 1], 0), (.iload_n 1, [], 0), (.ireturn, [0], 0)])]
/-- MindReaders.which()I -/
def zc_25 : List (Nat × List zE) := [(0, [(.iconst 0, [], 0), (.istore_n 1, [], 0), (.iconst 0, [], 0), (.istore_n 2, [], 0), (.nop, [4, 1, 1, 1], 0)]),
  (4, [(.iload_n 2, [], 0), (.aload_n 0, [], 0), (.getfield 101, [6, 3, 0], 0), (.if_icmp .ge 38, [47, 0, 1], 0), (.aload_n 0, [], 0), (.iload_n 2, [], 0), (.invokevirtual 124, [49, 2, 3, 2, 6], 0), (.astore_n 3, [], 0), (.aload_n 3, [], 0), (.ifnull 22, [41, 1, 1, 1], 0), (.aload_n 0, [], 0), (.aload_n 3, [], 0), (.aload_n 3, [], 0), (.invokevirtual 153, [148, 1, 1, 1, 0], 0), (.iconst 0, [], 0), (.invokevirtual 241, [57, 4, 1, 6, 6], 0), (.ifCond .eq 9, [41, 1, 1, 1], 0), (.iload_n 1, [], 0), (.iconst 1, [], 0), (.iload_n 2, [], 0), (.ishl, [], 0), (.ior, [], 0), (.istore_n 1, [], 0), (.nop, [41, 1, 1, 1], 0)]),
  (41, [(.iinc 2 1, [], 0), (.goto (-40), [4, 1, 1, 1], 0)]),
  (47, [(.iload_n 1, [], 0), (.ireturn, [0], 0)])]
/-- MindReaders.step(II)I -/
def zc_26 : List (Nat × List zE) := [(0, [(.aload_n 0, [], 0), (.iload_n 1, [], 0), (.invokevirtual 124, [49, 2, 3, 2, 6], 0), (.astore_n 3, [], 0), (.aload_n 3, [], 0), (.ifnonnull 6, [13, 1, 0, 1, 1], 0), (.bipush (-101), [], 0), (.ireturn, [0], 0)]),
  (13, [(.iload_n 2, [], 0), (.ifCond .lt 9, [23], 0), (.iload_n 2, [], 0), (.bipush 99, [], 0), (.if_icmp .le 6, [26, 1, 0, 1, 1], 0), (.nop, [23], 0)]),
  (23, [(.bipush (-102), [], 0), (.ireturn, [0], 0)]),
  (26, [(.aload_n 0, [], 0), (.aload_n 3, [], 0), (.invokevirtual 190, [50, 2, 1, 2, 6], 0), (.istore 4, [], 0), (.iload 4, [], 0), (.ifCond .ne 6, [41, 1, 0, 1, 1, 1], 0), (.bipush (-103), [], 0), (.ireturn, [0], 0)]),
  (41, [(.iconst 0, [], 0), (.istore 5, [], 0), (.nop, [44, 1, 0, 1, 1, 1, 1], 0)]),
  (44, [(.iload 5, [], 0), (.bipush 7, [], 0), (.if_icmp .gt 26, [74], 0), (.aload_n 0, [], 0), (.aload_n 3, [], 0), (.iload 4, [], 0), (.iload 5, [], 0), (.iload_n 2, [], 0), (.imul, [], 0), (.invokevirtual 241, [57, 4, 1, 6, 6], 0), (.ifCond .eq 6, [68, 1, 0, 1, 1, 1, 1], 0), (.iload 5, [], 0), (.ireturn, [0], 0)]),
  (68, [(.iinc 5 1, [], 0), (.goto (-27), [44, 1, 0, 1, 1, 1, 1], 0)]),
  (74, [(.iconst (-1), [], 0), (.ireturn, [0], 0)])]
/-- MindReaders.seen(II)J -/
def zc_27 : List (Nat × List zE) := [(0, [(.iload_n 1, [], 0), (.iconst 1, [], 0), (.if_icmp .lt 16, [18], 0), (.iload_n 1, [], 0), (.bipush 6, [], 0), (.if_icmp .gt 10, [18], 0), (.iload_n 2, [], 0), (.invokestatic 187, [47, 1, 1, 1], 0), (.ifCond .ne 7, [22, 1, 1, 1], 0), (.nop, [18], 0)]),
  (18, [(.ldc2_w 218, [], -102), (.lreturn, [], 0)]),
  (22, [(.aload_n 0, [], 0), (.getfield 21, [6, 1, 2], 0), (.invokevirtual 77, [171, 1, 1, 1, 3], 0), (.ifCond .ne 7, [36, 1, 1, 1], 0), (.ldc2_w 223, [], -103), (.lreturn, [], 0)]),
  (36, [(.aload_n 0, [], 0), (.iload_n 1, [], 0), (.invokevirtual 245, [61, 2, 2, 8, 6], 0), (.aload_n 0, [], 0), (.getfield 21, [6, 1, 2], 0), (.aload_n 0, [], 0), (.getfield 21, [6, 1, 2], 0), (.invokevirtual 77, [171, 1, 1, 1, 3], 0), (.invokevirtual 193, [182, 2, 1, 4, 3], 0), (.i2l, [], 0), (.iload_n 1, [], 0), (.invokestatic 229, [63, 2, 2, 6], 0), (.iload_n 2, [], 0), (.invokestatic 196, [64, 3, 2, 12], 0), (.lreturn, [], 0)])]
/-- MindReaders.change(II)I -/
def zc_28 : List (Nat × List zE) := [(0, [(.aload_n 0, [], 0), (.iload_n 1, [], 0), (.invokevirtual 124, [49, 2, 3, 2, 6], 0), (.astore_n 3, [], 0), (.aload_n 0, [], 0), (.iload_n 2, [], 0), (.invokevirtual 124, [49, 2, 3, 2, 6], 0), (.astore 4, [], 0), (.aload_n 3, [], 0), (.ifnull 8, [22], 0), (.aload 4, [], 0), (.ifnonnull 6, [25, 1, 0, 0, 1, 1], 0), (.nop, [22], 0)]),
  (22, [(.bipush (-101), [], 0), (.ireturn, [0], 0)]),
  (25, [(.aload_n 0, [], 0), (.aload_n 3, [], 0), (.aload 4, [], 0), (.invokevirtual 248, [56, 3, 1, 5, 6], 0), (.ireturn, [0], 0)])]
/-- MindReaders.cheapest(I)I -/
def zc_29 : List (Nat × List zE) := [(0, [(.aload_n 0, [], 0), (.iload_n 1, [], 0), (.invokevirtual 124, [49, 2, 3, 2, 6], 0), (.astore_n 2, [], 0), (.aload_n 2, [], 0), (.ifnonnull 6, [13, 1, 1, 1], 0), (.bipush (-101), [], 0), (.ireturn, [0], 0)]),
  (13, [(.iconst (-1), [], 0), (.istore_n 3, [], 0), (.iconst 0, [], 0), (.istore 4, [], 0), (.iconst 0, [], 0), (.istore 5, [], 0), (.nop, [21, 1, 1, 1, 1, 1, 1], 0)]),
  (21, [(.iload 5, [], 0), (.aload_n 0, [], 0), (.getfield 101, [6, 3, 0], 0), (.if_icmp .ge 59, [86, 0, 0, 0, 1], 0), (.aload_n 0, [], 0), (.iload 5, [], 0), (.invokevirtual 124, [49, 2, 3, 2, 6], 0), (.astore 6, [], 0), (.aload 6, [], 0), (.ifnull 40, [80, 1, 1, 1, 1, 1, 1], 0), (.iload 5, [], 0), (.iload_n 1, [], 0), (.if_icmp .ne 6, [52, 1, 1, 1, 1, 1, 1, 1], 0), (.goto 31, [80, 1, 1, 1, 1, 1, 1], 0)]),
  (52, [(.aload_n 0, [], 0), (.aload_n 2, [], 0), (.aload 6, [], 0), (.invokevirtual 248, [56, 3, 1, 5, 6], 0), (.istore 7, [], 0), (.iload_n 3, [], 0), (.iconst (-1), [], 0), (.if_icmp .eq 10, [73, 1, 1, 1, 0, 0, 1, 0, 1], 0), (.iload 7, [], 0), (.iload 4, [], 0), (.if_icmp .ge 10, [80, 1, 1, 1, 1, 1, 1], 0), (.nop, [73, 1, 1, 1, 0, 0, 1, 0, 1], 0)]),
  (73, [(.iload 5, [], 0), (.istore_n 3, [], 0), (.iload 7, [], 0), (.istore 4, [], 0), (.nop, [80, 1, 1, 1, 1, 1, 1], 0)]),
  (80, [(.iinc 5 1, [], 0), (.goto (-62), [21, 1, 1, 1, 1, 1, 1], 0)]),
  (86, [(.iload_n 3, [], 0), (.ireturn, [0], 0)])]
/-- MindReaders.luck(IIII)J -/
def zc_30 : List (Nat × List zE) := [(0, [(.iload_n 1, [], 0), (.iconst 1, [], 0), (.if_icmp .lt 37, [39], 0), (.iload_n 1, [], 0), (.bipush 12, [], 0), (.if_icmp .gt 31, [39], 0), (.iload_n 2, [], 0), (.iconst 2, [], 0), (.if_icmp .lt 26, [39], 0), (.iload_n 2, [], 0), (.bipush 9, [], 0), (.if_icmp .gt 20, [39], 0), (.iload_n 3, [], 0), (.ifCond .lt 16, [39], 0), (.iload_n 3, [], 0), (.iload_n 1, [], 0), (.if_icmp .gt 11, [39], 0), (.iload 4, [], 0), (.invokestatic 187, [47, 1, 1, 1], 0), (.ifCond .ne 7, [43, 0, 1, 1, 1, 1], 0), (.nop, [39], 0)]),
  (39, [(.ldc2_w 218, [], -102), (.lreturn, [], 0)]),
  (43, [(.lconst 0, [], 0), (.lstore 5, [], 0), (.iload_n 3, [], 0), (.istore 7, [], 0), (.nop, [49, 0, 1, 1, 0, 1, 1, 0, 1], 0)]),
  (49, [(.iload 7, [], 0), (.iload_n 1, [], 0), (.if_icmp .gt 32, [84, 0, 1, 1, 0, 1, 1], 0), (.lload 5, [], 0), (.iload_n 1, [], 0), (.iload 7, [], 0), (.invokestatic 252, [62, 2, 2, 5], 0), (.iload_n 2, [], 0), (.iconst 1, [], 0), (.isub, [], 0), (.i2l, [], 0), (.iload_n 1, [], 0), (.iload 7, [], 0), (.isub, [], 0), (.invokestatic 229, [63, 2, 2, 6], 0), (.lmul, [], 0), (.ladd, [], 0), (.lstore 5, [], 0), (.iinc 7 1, [], 0), (.goto (-32), [49, 0, 1, 1, 0, 1, 1, 0, 1], 0)]),
  (84, [(.lload 5, [], 0), (.iload_n 2, [], 0), (.i2l, [], 0), (.iload_n 1, [], 0), (.invokestatic 229, [63, 2, 2, 6], 0), (.iload 4, [], 0), (.invokestatic 196, [64, 3, 2, 12], 0), (.lreturn, [], 0)])]
/-- MindReaders.left(II)I -/
def zc_31 : List (Nat × List zE) := [(0, [(.aload_n 0, [], 0), (.iload_n 1, [], 0), (.invokevirtual 124, [49, 2, 3, 2, 6], 0), (.astore_n 3, [], 0), (.aload_n 3, [], 0), (.ifnonnull 6, [13, 1, 0, 1, 1], 0), (.bipush (-101), [], 0), (.ireturn, [0], 0)]),
  (13, [(.iload_n 2, [], 0), (.ifCond .lt 10, [24], 0), (.iload_n 2, [], 0), (.sipush 255, [], 0), (.if_icmp .le 6, [27, 1, 0, 1, 1], 0), (.nop, [24], 0)]),
  (24, [(.bipush (-102), [], 0), (.ireturn, [0], 0)]),
  (27, [(.aload_n 0, [], 0), (.aload_n 3, [], 0), (.iload_n 2, [], 0), (.bipush 8, [], 0), (.invokevirtual 256, [65, 4, 1, 8, 6], 0), (.ireturn, [0], 0)])]
/-- MindReaders.stop(I)I -/
def zc_32 : List (Nat × List zE) := [(0, [(.aload_n 0, [], 0), (.iload_n 1, [], 0), (.invokevirtual 124, [49, 2, 3, 2, 6], 0), (.astore_n 2, [], 0), (.aload_n 2, [], 0), (.ifnonnull 6, [13, 1, 0, 1], 0), (.bipush (-101), [], 0), (.ireturn, [0], 0)]),
  (13, [(.iconst 0, [], 0), (.istore_n 3, [], 0), (.nop, [15, 1, 0, 1, 1], 0)]),
  (15, [(.iload_n 3, [], 0), (.bipush 8, [], 0), (.if_icmp .ge 50, [68], 0), (.iconst 0, [], 0), (.istore 4, [], 0), (.nop, [24, 1, 0, 1, 1, 1], 0)]),
  (24, [(.iload 4, [], 0), (.sipush 255, [], 0), (.if_icmp .gt 33, [62, 1, 0, 1, 1], 0), (.iload 4, [], 0), (.invokestatic 260, [199, 1, 1, 1], 0), (.iload_n 3, [], 0), (.if_icmp .ne 18, [56, 1, 0, 1, 1, 1], 0), (.aload_n 0, [], 0), (.aload_n 2, [], 0), (.iload 4, [], 0), (.iconst 2, [], 0), (.invokevirtual 256, [65, 4, 1, 8, 6], 0), (.iconst 1, [], 0), (.if_icmp .gt 6, [56, 1, 0, 1, 1, 1], 0), (.iload 4, [], 0), (.ireturn, [0], 0)]),
  (56, [(.iinc 4 1, [], 0), (.goto (-35), [24, 1, 0, 1, 1, 1], 0)]),
  (62, [(.iinc 3 1, [], 0), (.goto (-50), [15, 1, 0, 1, 1], 0)]),
  (68, [(.sipush 255, [], 0), (.ireturn, [0], 0)])]
/-- MindReaders.image()I -/
def zc_33 : List (Nat × List zE) := [(0, [(.aload_n 0, [], 0), (.getfield 41, [6, 6, 2], 0), (.aload_n 0, [], 0), (.getfield 21, [6, 1, 2], 0), (.invokevirtual 265, [177, 2, 0, 3, 3], 0), (.aload_n 0, [], 0), (.getfield 44, [6, 7, 2], 0), (.aload_n 0, [], 0), (.getfield 37, [6, 5, 2], 0), (.invokevirtual 268, [164, 2, 0, 3, 1], 0), (.aload_n 0, [], 0), (.iconst 1, [], 0), (.putfield 271, [6, 8, 3], 0), (.aload_n 0, [], 0), (.getfield 21, [6, 1, 2], 0), (.invokevirtual 77, [171, 1, 1, 1, 3], 0), (.ireturn, [0], 0)])]
/-- MindReaders.restore()I -/
def zc_34 : List (Nat × List zE) := [(0, [(.aload_n 0, [], 0), (.getfield 271, [6, 8, 0], 0), (.ifCond .ne 6, [10, 1], 0), (.bipush (-103), [], 0), (.ireturn, [0], 0)]),
  (10, [(.iconst 0, [], 0), (.istore_n 1, [], 0), (.nop, [12, 1, 1], 0)]),
  (12, [(.iload_n 1, [], 0), (.aload_n 0, [], 0), (.getfield 41, [6, 6, 2], 0), (.invokevirtual 77, [171, 1, 1, 1, 3], 0), (.if_icmp .ge 25, [45, 1], 0), (.aload_n 0, [], 0), (.getfield 21, [6, 1, 2], 0), (.iload_n 1, [], 0), (.aload_n 0, [], 0), (.getfield 41, [6, 6, 2], 0), (.iload_n 1, [], 0), (.invokevirtual 94, [172, 2, 1, 2, 3], 0), (.invokevirtual 150, [173, 3, 0, 3, 3], 0), (.iinc 1 1, [], 0), (.goto (-30), [12, 1, 1], 0)]),
  (45, [(.aload_n 0, [], 0), (.getfield 37, [6, 5, 2], 0), (.aload_n 0, [], 0), (.getfield 44, [6, 7, 2], 0), (.invokevirtual 268, [164, 2, 0, 3, 1], 0), (.aload_n 0, [], 0), (.getfield 21, [6, 1, 2], 0), (.invokevirtual 77, [171, 1, 1, 1, 3], 0), (.ireturn, [0], 0)])]
/-- MindReaders.count(I)I -/
def zc_35 : List (Nat × List zE) := [(0, [(.iload_n 1, [], 0), (.tableswitch 91 0 5 #[39, 47, 55, 60, 68, 76], [1, 92, 1, 40, 48, 56, 61, 69, 77], 39)]),
  (40, [(.aload_n 0, [], 0), (.getfield 12, [6, 0, 2], 0), (.invokevirtual 117, [188, 1, 1, 1, 5], 0), (.ireturn, [0], 0)]),
  (48, [(.aload_n 0, [], 0), (.getfield 21, [6, 1, 2], 0), (.invokevirtual 77, [171, 1, 1, 1, 3], 0), (.ireturn, [0], 0)]),
  (56, [(.aload_n 0, [], 0), (.getfield 101, [6, 3, 0], 0), (.ireturn, [0], 0)]),
  (61, [(.aload_n 0, [], 0), (.getfield 37, [6, 5, 2], 0), (.invokevirtual 236, [159, 1, 1, 1, 1], 0), (.ireturn, [0], 0)]),
  (69, [(.aload_n 0, [], 0), (.getfield 31, [6, 4, 2], 0), (.invokevirtual 77, [171, 1, 1, 1, 3], 0), (.ireturn, [0], 0)]),
  (77, [(.aload_n 0, [], 0), (.getfield 21, [6, 1, 2], 0), (.aload_n 0, [], 0), (.getfield 21, [6, 1, 2], 0), (.invokevirtual 77, [171, 1, 1, 1, 3], 0), (.invokevirtual 193, [182, 2, 1, 4, 3], 0), (.ireturn, [0], 0)]),
  (92, [(.bipush (-102), [], 0), (.ireturn, [0], 0)])]
/-- MindReaders.digest()J -/
def zc_36 : List (Nat × List zE) := [(0, [(.ldc2_w 275, [], 479), (.lstore_n 1, [], 0), (.iconst 0, [], 0), (.istore_n 3, [], 0), (.nop, [6, 1, 1, 0, 1], 0)]),
  (6, [(.iload_n 3, [], 0), (.aload_n 0, [], 0), (.getfield 12, [6, 0, 2], 0), (.invokevirtual 117, [188, 1, 1, 1, 5], 0), (.if_icmp .ge 37, [51, 1, 1], 0), (.iconst 0, [], 0), (.istore 4, [], 0), (.nop, [20, 1, 1, 0, 1, 1], 0)]),
  (20, [(.iload 4, [], 0), (.iconst 3, [], 0), (.if_icmp .gt 22, [45, 1, 1, 0, 1], 0), (.lload_n 1, [], 0), (.aload_n 0, [], 0), (.iload_n 3, [], 0), (.iload 4, [], 0), (.invokevirtual 277, [8, 3, 1, 3, 6], 0), (.i2l, [], 0), (.invokestatic 280, [37, 2, 2, 4], 0), (.lstore_n 1, [], 0), (.iinc 4 1, [], 0), (.goto (-22), [20, 1, 1, 0, 1, 1], 0)]),
  (45, [(.iinc 3 1, [], 0), (.goto (-42), [6, 1, 1, 0, 1], 0)]),
  (51, [(.lload_n 1, [], 0), (.aload_n 0, [], 0), (.getfield 21, [6, 1, 2], 0), (.invokestatic 284, [38, 2, 2, 6], 0), (.lstore_n 1, [], 0), (.iconst 0, [], 0), (.istore_n 3, [], 0), (.nop, [62, 1, 1, 0, 1], 0)]),
  (62, [(.iload_n 3, [], 0), (.aload_n 0, [], 0), (.getfield 101, [6, 3, 0], 0), (.if_icmp .ge 30, [97, 1, 1], 0), (.aload_n 0, [], 0), (.iload_n 3, [], 0), (.invokevirtual 124, [49, 2, 3, 2, 6], 0), (.astore 4, [], 0), (.aload 4, [], 0), (.ifnull 12, [91, 1, 1, 0, 1], 0), (.aload_n 0, [], 0), (.lload_n 1, [], 0), (.iload_n 3, [], 0), (.aload 4, [], 0), (.invokevirtual 288, [39, 4, 2, 9, 6], 0), (.lstore_n 1, [], 0), (.nop, [91, 1, 1, 0, 1], 0)]),
  (91, [(.iinc 3 1, [], 0), (.goto (-32), [62, 1, 1, 0, 1], 0)]),
  (97, [(.iconst 0, [], 0), (.istore_n 3, [], 0), (.nop, [99, 1, 1, 0, 1], 0)]),
  (99, [(.iload_n 3, [], 0), (.aload_n 0, [], 0), (.getfield 37, [6, 5, 2], 0), (.invokevirtual 236, [159, 1, 1, 1, 1], 0), (.if_icmp .ge 53, [160, 1, 1], 0), (.lload_n 1, [], 0), (.aload_n 0, [], 0), (.getfield 37, [6, 5, 2], 0), (.iload_n 3, [], 0), (.invokevirtual 292, [160, 2, 1, 2, 1], 0), (.i2l, [], 0), (.invokestatic 280, [37, 2, 2, 4], 0), (.lstore_n 1, [], 0), (.lload_n 1, [], 0), (.aload_n 0, [], 0), (.getfield 37, [6, 5, 2], 0), (.iload_n 3, [], 0), (.invokevirtual 295, [161, 2, 3, 2, 1], 0), (.invokevirtual 77, [171, 1, 1, 1, 3], 0), (.i2l, [], 0), (.invokestatic 280, [37, 2, 2, 4], 0), (.lstore_n 1, [], 0), (.lload_n 1, [], 0), (.aload_n 0, [], 0), (.getfield 37, [6, 5, 2], 0), (.iload_n 3, [], 0), (.invokevirtual 295, [161, 2, 3, 2, 1], 0), (.invokestatic 284, [38, 2, 2, 6], 0), (.lstore_n 1, [], 0), (.iinc 3 1, [], 0), (.goto (-58), [99, 1, 1, 0, 1], 0)]),
  (160, [(.lload_n 1, [], 0), (.aload_n 0, [], 0), (.invokevirtual 298, [25, 1, 1, 4, 6], 0), (.i2l, [], 0), (.invokestatic 280, [37, 2, 2, 4], 0), (.lstore_n 1, [], 0), (.lload_n 1, [], 0), (.aload_n 0, [], 0), (.getfield 31, [6, 4, 2], 0), (.invokestatic 284, [38, 2, 2, 6], 0), (.lstore_n 1, [], 0), (.iconst 0, [], 0), (.istore_n 3, [], 0), (.nop, [181, 1, 1, 0, 1], 0)]),
  (181, [(.iload_n 3, [], 0), (.iconst 5, [], 0), (.if_icmp .gt 20, [203, 0, 1], 0), (.lload_n 1, [], 0), (.aload_n 0, [], 0), (.iload_n 3, [], 0), (.invokevirtual 301, [35, 2, 1, 2, 6], 0), (.i2l, [], 0), (.invokestatic 280, [37, 2, 2, 4], 0), (.lstore_n 1, [], 0), (.iinc 3 1, [], 0), (.goto (-19), [181, 1, 1, 0, 1], 0)]),
  (203, [(.lload_n 1, [], 0), (.lreturn, [], 0)])]
/-- MindReaders.mix(JJ)J -/
def zc_37 : List (Nat × List zE) := [(0, [(.ldc2_w 304, [], 31), (.lload_n 0, [], 0), (.lmul, [], 0), (.lload_n 2, [], 0), (.ladd, [], 0), (.lreturn, [], 0)])]
/-- MindReaders.mixRow(JLMindReaders$Row;)J -/
def zc_38 : List (Nat × List zE) := [(0, [(.lload_n 0, [], 0), (.lstore_n 3, [], 0), (.iconst 0, [], 0), (.istore 5, [], 0), (.nop, [5, 0, 0, 1, 1, 0, 1], 0)]),
  (5, [(.iload 5, [], 0), (.aload_n 2, [], 0), (.invokevirtual 77, [171, 1, 1, 1, 3], 0), (.if_icmp .ge 21, [32, 0, 0, 0, 1], 0), (.lload_n 3, [], 0), (.aload_n 2, [], 0), (.iload 5, [], 0), (.invokevirtual 94, [172, 2, 1, 2, 3], 0), (.i2l, [], 0), (.invokestatic 280, [37, 2, 2, 4], 0), (.lstore_n 3, [], 0), (.iinc 5 1, [], 0), (.goto (-24), [5, 0, 0, 1, 1, 0, 1], 0)]),
  (32, [(.lload_n 3, [], 0), (.lreturn, [], 0)])]
/-- MindReaders.mixCode(JILMindReaders$Code;)J -/
def zc_39 : List (Nat × List zE) := [(0, [(.lload_n 1, [], 0), (.lstore 5, [], 0), (.iconst 0, [], 0), (.istore 7, [], 0), (.nop, [6, 1, 0, 0, 1, 1, 1, 0, 1], 0)]),
  (6, [(.iload 7, [], 0), (.aload 4, [], 0), (.invokevirtual 153, [148, 1, 1, 1, 0], 0), (.if_icmp .ge 75, [88, 1, 0, 0, 1, 1, 1], 0), (.iconst 0, [], 0), (.istore 8, [], 0), (.nop, [19, 1, 0, 0, 1, 1, 1, 0, 1, 1], 0)]),
  (19, [(.iload 8, [], 0), (.iconst 5, [], 0), (.if_icmp .gt 26, [48, 1, 0, 0, 1, 1, 1, 0, 1], 0), (.lload 5, [], 0), (.aload_n 0, [], 0), (.iload_n 3, [], 0), (.iload 7, [], 0), (.iload 8, [], 0), (.invokevirtual 306, [11, 4, 1, 5, 6], 0), (.i2l, [], 0), (.invokestatic 280, [37, 2, 2, 4], 0), (.lstore 5, [], 0), (.iinc 8 1, [], 0), (.goto (-26), [19, 1, 0, 0, 1, 1, 1, 0, 1, 1], 0)]),
  (48, [(.lload 5, [], 0), (.aload_n 0, [], 0), (.iload_n 3, [], 0), (.iload 7, [], 0), (.bipush 10, [], 0), (.invokevirtual 306, [11, 4, 1, 5, 6], 0), (.i2l, [], 0), (.invokestatic 280, [37, 2, 2, 4], 0), (.lstore 5, [], 0), (.lload 5, [], 0), (.aload_n 0, [], 0), (.iload_n 3, [], 0), (.iload 7, [], 0), (.bipush 30, [], 0), (.invokevirtual 306, [11, 4, 1, 5, 6], 0), (.i2l, [], 0), (.invokestatic 280, [37, 2, 2, 4], 0), (.lstore 5, [], 0), (.iinc 7 1, [], 0), (.goto (-79), [6, 1, 0, 0, 1, 1, 1, 0, 1], 0)]),
  (88, [(.lload 5, [], 0), (.aload_n 0, [], 0), (.iload_n 3, [], 0), (.iconst 0, [], 0), (.invokevirtual 310, [13, 3, 1, 5, 6], 0), (.i2l, [], 0), (.invokestatic 280, [37, 2, 2, 4], 0), (.lstore 5, [], 0), (.lload 5, [], 0), (.aload_n 0, [], 0), (.getfield 68, [6, 13, 2], 0), (.aload 4, [], 0), (.invokevirtual 183, [166, 2, 1, 4, 2], 0), (.i2l, [], 0), (.invokestatic 280, [37, 2, 2, 4], 0), (.lstore 5, [], 0), (.lload 5, [], 0), (.aload_n 0, [], 0), (.iload_n 3, [], 0), (.invokevirtual 313, [17, 2, 1, 6, 6], 0), (.i2l, [], 0), (.invokestatic 280, [37, 2, 2, 4], 0), (.lstore 5, [], 0), (.lload 5, [], 0), (.aload_n 0, [], 0), (.iload_n 3, [], 0), (.invokevirtual 316, [20, 2, 1, 3, 6], 0), (.i2l, [], 0), (.invokestatic 280, [37, 2, 2, 4], 0), (.lstore 5, [], 0), (.lload 5, [], 0), (.aload_n 0, [], 0), (.iload_n 3, [], 0), (.invokevirtual 319, [32, 2, 1, 5, 6], 0), (.i2l, [], 0), (.invokestatic 280, [37, 2, 2, 4], 0), (.lreturn, [], 0)])]
/-- MindReaders.byteOf(JI)I -/
def zc_40 : List (Nat × List zE) := [(0, [(.lload_n 0, [], 0), (.bipush 8, [], 0), (.iload_n 2, [], 0), (.imul, [], 0), (.lushr, [], 0), (.ldc2_w 322, [], 255), (.land, [], 0), (.l2i, [], 0), (.ireturn, [0], 0)])]
/-- MindReaders.lettersIn(J)I -/
def zc_41 : List (Nat × List zE) := [(0, [(.iconst 0, [], 0), (.istore_n 2, [], 0), (.iconst 0, [], 0), (.istore_n 3, [], 0), (.nop, [4, 1, 0, 1, 1], 0)]),
  (4, [(.iload_n 3, [], 0), (.bipush 8, [], 0), (.if_icmp .ge 43, [50, 0, 0, 1], 0), (.lload_n 0, [], 0), (.iload_n 3, [], 0), (.invokestatic 81, [40, 2, 1, 3], 0), (.istore 4, [], 0), (.iload 4, [], 0), (.bipush 126, [], 0), (.if_icmp .gt 13, [34], 0), (.iload 4, [], 0), (.ifCond .eq 10, [36, 1, 0, 1, 1, 1], 0), (.iload_n 2, [], 0), (.iload_n 3, [], 0), (.if_icmp .ge 5, [36, 1, 0, 1, 1, 1], 0), (.nop, [34], 0)]),
  (34, [(.iconst (-1), [], 0), (.ireturn, [0], 0)]),
  (36, [(.iload 4, [], 0), (.ifCond .eq 6, [44, 1, 0, 1, 1], 0), (.iinc 2 1, [], 0), (.nop, [44, 1, 0, 1, 1], 0)]),
  (44, [(.iinc 3 1, [], 0), (.goto (-43), [4, 1, 0, 1, 1], 0)]),
  (50, [(.iload_n 2, [], 0), (.ireturn, [0], 0)])]
/-- MindReaders.signalOf(I)I -/
def zc_42 : List (Nat × List zE) := [(0, [(.iload_n 0, [], 0), (.bipush 97, [], 0), (.if_icmp .lt 16, [19], 0), (.iload_n 0, [], 0), (.bipush 104, [], 0), (.if_icmp .gt 10, [19], 0), (.iload_n 0, [], 0), (.bipush 97, [], 0), (.isub, [], 0), (.goto 4, [20], 0)]),
  (19, [(.iconst (-1), [], 0), (.nop, [20], 0)]),
  (20, [(.ireturn, [0], 0)])]
/-- MindReaders.firstFault()I -/
def zc_43 : List (Nat × List zE) := [(0, [(.iconst 0, [], 0), (.istore_n 1, [], 0), (.iconst 0, [], 0), (.istore_n 2, [], 0), (.iconst 0, [], 0), (.istore_n 3, [], 0), (.nop, [6, 1, 1, 1, 1], 0)]),
  (6, [(.iload_n 3, [], 0), (.aload_n 0, [], 0), (.getfield 31, [6, 4, 2], 0), (.invokevirtual 77, [171, 1, 1, 1, 3], 0), (.if_icmp .ge 66, [80, 1], 0), (.aload_n 0, [], 0), (.getfield 31, [6, 4, 2], 0), (.iload_n 3, [], 0), (.invokevirtual 94, [172, 2, 1, 2, 3], 0), (.istore 4, [], 0), (.iload 4, [], 0), (.invokestatic 98, [42, 1, 1, 1], 0), (.iconst (-1), [], 0), (.if_icmp .eq 14, [47, 1, 1, 1, 1, 1], 0), (.iload_n 2, [], 0), (.iconst 5, [], 0), (.if_icmp .ge 9, [47, 1, 1, 1, 1, 1], 0), (.iinc 2 1, [], 0), (.goto 30, [74, 1, 1, 1, 1], 0)]),
  (47, [(.iload 4, [], 0), (.bipush 44, [], 0), (.if_icmp .ne 21, [72, 0, 0, 0, 1], 0), (.iload_n 2, [], 0), (.ifCond .le 17, [72, 0, 0, 0, 1], 0), (.iload_n 1, [], 0), (.bipush 7, [], 0), (.if_icmp .ge 11, [72, 0, 0, 0, 1], 0), (.iinc 1 1, [], 0), (.iconst 0, [], 0), (.istore_n 2, [], 0), (.goto 5, [74, 1, 1, 1, 1], 0)]),
  (72, [(.iload_n 3, [], 0), (.ireturn, [0], 0)]),
  (74, [(.iinc 3 1, [], 0), (.goto (-71), [6, 1, 1, 1, 1], 0)]),
  (80, [(.aload_n 0, [], 0), (.getfield 31, [6, 4, 2], 0), (.invokevirtual 77, [171, 1, 1, 1, 3], 0), (.ireturn, [0], 0)])]
/-- MindReaders.readPage()Z -/
def zc_44 : List (Nat × List zE) := [(0, [(.aload_n 0, [], 0), (.getfield 47, [6, 9, 2], 0), (.invokevirtual 88, [176, 1, 0, 1, 3], 0), (.iconst 0, [], 0), (.istore_n 1, [], 0), (.nop, [9, 1, 1], 0)]),
  (9, [(.iload_n 1, [], 0), (.aload_n 0, [], 0), (.getfield 31, [6, 4, 2], 0), (.invokevirtual 77, [171, 1, 1, 1, 3], 0), (.if_icmp .ge 36, [53], 0), (.aload_n 0, [], 0), (.getfield 31, [6, 4, 2], 0), (.iload_n 1, [], 0), (.invokevirtual 94, [172, 2, 1, 2, 3], 0), (.invokestatic 98, [42, 1, 1, 1], 0), (.istore_n 2, [], 0), (.iload_n 2, [], 0), (.iconst (-1), [], 0), (.if_icmp .ne 5, [39, 1, 1, 1], 0), (.iconst 0, [], 0), (.ireturn, [1], 0)]),
  (39, [(.aload_n 0, [], 0), (.getfield 47, [6, 9, 2], 0), (.iload_n 2, [], 0), (.invokevirtual 85, [174, 2, 0, 2, 3], 0), (.iinc 1 1, [], 0), (.goto (-41), [9, 1, 1], 0)]),
  (53, [(.iconst 1, [], 0), (.ireturn, [1], 0)])]
/-- MindReaders.hearPage()Z -/
def zc_45 : List (Nat × List zE) := [(0, [(.aload_n 0, [], 0), (.invokevirtual 233, [44, 1, 1, 3, 6], 0), (.ifCond .ne 5, [9, 1], 0), (.iconst 0, [], 0), (.ireturn, [1], 0)]),
  (9, [(.aload_n 0, [], 0), (.getfield 12, [6, 0, 2], 0), (.aload_n 0, [], 0), (.getfield 47, [6, 9, 2], 0), (.iconst 0, [], 0), (.aload_n 0, [], 0), (.getfield 50, [6, 10, 2], 0), (.invokevirtual 324, [198, 4, 0, 7, 5], 0), (.iconst 1, [], 0), (.ireturn, [1], 0)])]
/-- MindReaders.isWeight(I)Z -/
def zc_46 : List (Nat × List zE) := [(0, [(.iload_n 0, [], 0), (.iconst 1, [], 0), (.if_icmp .lt 13, [15], 0), (.iload_n 0, [], 0), (.bipush 99, [], 0), (.if_icmp .gt 7, [15], 0), (.iconst 1, [], 0), (.goto 4, [16], 0)]),
  (15, [(.iconst 0, [], 0), (.nop, [16], 0)]),
  (16, [(.ireturn, [1], 0)])]
/-- MindReaders.isPart(I)Z -/
def zc_47 : List (Nat × List zE) := [(0, [(.iload_n 0, [], 0), (.ifCond .eq 8, [9], 0), (.iload_n 0, [], 0), (.iconst 1, [], 0), (.if_icmp .ne 7, [13], 0), (.nop, [9], 0)]),
  (9, [(.iconst 1, [], 0), (.goto 4, [14], 0)]),
  (13, [(.iconst 0, [], 0), (.nop, [14], 0)]),
  (14, [(.ireturn, [1], 0)])]
/-- MindReaders.isThing(I)Z -/
def zc_48 : List (Nat × List zE) := [(0, [(.iload_n 1, [], 0), (.ifCond .lt 18, [19], 0), (.iload_n 1, [], 0), (.aload_n 0, [], 0), (.getfield 21, [6, 1, 2], 0), (.invokevirtual 77, [171, 1, 1, 1, 3], 0), (.if_icmp .ge 7, [19], 0), (.iconst 1, [], 0), (.goto 4, [20], 0)]),
  (19, [(.iconst 0, [], 0), (.nop, [20], 0)]),
  (20, [(.ireturn, [1], 0)])]
/-- MindReaders.codeAt(I)LMindReaders$Code; -/
def zc_49 : List (Nat × List zE) := [(0, [(.iload_n 1, [], 0), (.ifCond .lt 29, [30], 0), (.iload_n 1, [], 0), (.aload_n 0, [], 0), (.getfield 101, [6, 3, 0], 0), (.if_icmp .ge 21, [30], 0), (.iload_n 1, [], 0), (.aload_n 0, [], 0), (.getfield 27, [6, 2, 2], 0), (.arraylength, [], 0), (.if_icmp .ge 12, [30], 0), (.aload_n 0, [], 0), (.getfield 27, [6, 2, 2], 0), (.iload_n 1, [], 0), (.aaload, [102], 0), (.goto 4, [31], 0)]),
  (30, [(.aconst_null, [], 0), (.nop, [31], 0)]),
  (31, [(.areturn, [], 0)])]
/-- MindReaders.thingsSaid(LMindReaders$Code;)I -/
def zc_50 : List (Nat × List zE) := [(0, [(.aload_n 1, [], 0), (.invokevirtual 153, [148, 1, 1, 1, 0], 0), (.aload_n 0, [], 0), (.getfield 21, [6, 1, 2], 0), (.invokevirtual 77, [171, 1, 1, 1, 3], 0), (.invokestatic 327, [1], 0), (.ireturn, [0], 0)])]
/-- MindReaders.longOf(LMindReaders$Code;I)I -/
def zc_51 : List (Nat × List zE) := [(0, [(.aload_n 0, [], 0), (.getfield 12, [6, 0, 2], 0), (.aload_n 1, [], 0), (.iload_n 2, [], 0), (.invokevirtual 154, [149, 2, 3, 2, 0], 0), (.invokevirtual 332, [196, 2, 1, 4, 5], 0), (.ireturn, [0], 0)])]
/-- MindReaders.ofPair(II)I -/
def zc_52 : List (Nat × List zE) := [(0, [(.iload_n 0, [], 0), (.iconst (-1), [], 0), (.if_icmp .ne 5, [7, 1, 1], 0), (.iconst (-1), [], 0), (.ireturn, [0], 0)]),
  (7, [(.iload_n 1, [], 0), (.ifCond .ne 10, [18, 1], 0), (.iload_n 0, [], 0), (.bipush 8, [], 0), (.idiv, [], 0), (.goto 7, [22], 0)]),
  (18, [(.iload_n 0, [], 0), (.bipush 8, [], 0), (.irem, [], 0), (.nop, [22], 0)]),
  (22, [(.ireturn, [0], 0)])]
/-- MindReaders.dealtTo(LMindReaders$Code;I)I -/
def zc_53 : List (Nat × List zE) := [(0, [(.aload_n 0, [], 0), (.aload_n 1, [], 0), (.invokevirtual 190, [50, 2, 1, 2, 6], 0), (.istore_n 3, [], 0), (.iload_n 2, [], 0), (.ifCond .lt 8, [15], 0), (.iload_n 2, [], 0), (.iload_n 3, [], 0), (.if_icmp .lt 5, [17, 1, 1, 1, 1], 0), (.nop, [15], 0)]),
  (15, [(.iconst (-1), [], 0), (.ireturn, [0], 0)]),
  (17, [(.iconst 0, [], 0), (.istore 4, [], 0), (.iconst 0, [], 0), (.istore 5, [], 0), (.nop, [23, 1, 1, 1, 1, 1, 1], 0)]),
  (23, [(.iload 5, [], 0), (.iload_n 3, [], 0), (.if_icmp .ge 40, [66, 1, 1, 0, 1, 1], 0), (.aload_n 0, [], 0), (.getfield 21, [6, 1, 2], 0), (.iload 5, [], 0), (.invokevirtual 94, [172, 2, 1, 2, 3], 0), (.ineg, [], 0), (.iload 5, [], 0), (.aload_n 0, [], 0), (.getfield 21, [6, 1, 2], 0), (.iload_n 2, [], 0), (.invokevirtual 94, [172, 2, 1, 2, 3], 0), (.ineg, [], 0), (.iload_n 2, [], 0), (.invokestatic 335, [55, 4, 1, 4], 0), (.ifCond .eq 6, [60, 1, 1, 1, 1, 1, 1], 0), (.iinc 4 1, [], 0), (.nop, [60, 1, 1, 1, 1, 1, 1], 0)]),
  (60, [(.iinc 5 1, [], 0), (.goto (-40), [23, 1, 1, 1, 1, 1, 1], 0)]),
  (66, [(.iconst 0, [], 0), (.istore 5, [], 0), (.nop, [69, 1, 1, 0, 1, 1, 1], 0)]),
  (69, [(.iload 5, [], 0), (.iload_n 3, [], 0), (.if_icmp .ge 25, [97], 0), (.aload_n 0, [], 0), (.aload_n 1, [], 0), (.iload 5, [], 0), (.iload_n 3, [], 0), (.invokevirtual 339, [54, 4, 1, 6, 6], 0), (.iload 4, [], 0), (.if_icmp .ne 6, [91, 1, 1, 0, 1, 1, 1], 0), (.iload 5, [], 0), (.ireturn, [0], 0)]),
  (91, [(.iinc 5 1, [], 0), (.goto (-25), [69, 1, 1, 0, 1, 1, 1], 0)]),
  (97, [(.iconst (-1), [], 0), (.ireturn, [0], 0)])]
/-- MindReaders.rankByLong(LMindReaders$Code;II)I -/
def zc_54 : List (Nat × List zE) := [(0, [(.iconst 0, [], 0), (.istore 4, [], 0), (.iconst 0, [], 0), (.istore 5, [], 0), (.nop, [6, 1, 1, 1, 1, 1, 1], 0)]),
  (6, [(.iload 5, [], 0), (.iload_n 3, [], 0), (.if_icmp .ge 34, [43, 0, 0, 0, 0, 1], 0), (.aload_n 0, [], 0), (.aload_n 1, [], 0), (.iload 5, [], 0), (.invokevirtual 161, [51, 3, 1, 3, 6], 0), (.iload 5, [], 0), (.aload_n 0, [], 0), (.aload_n 1, [], 0), (.iload_n 2, [], 0), (.invokevirtual 161, [51, 3, 1, 3, 6], 0), (.iload_n 2, [], 0), (.invokestatic 335, [55, 4, 1, 4], 0), (.ifCond .eq 6, [37, 1, 1, 1, 1, 1, 1], 0), (.iinc 4 1, [], 0), (.nop, [37, 1, 1, 1, 1, 1, 1], 0)]),
  (37, [(.iinc 5 1, [], 0), (.goto (-34), [6, 1, 1, 1, 1, 1, 1], 0)]),
  (43, [(.iload 4, [], 0), (.ireturn, [0], 0)])]
/-- MindReaders.isAhead(IIII)Z -/
def zc_55 : List (Nat × List zE) := [(0, [(.iload_n 0, [], 0), (.iload_n 2, [], 0), (.if_icmp .lt 13, [15], 0), (.iload_n 0, [], 0), (.iload_n 2, [], 0), (.if_icmp .ne 12, [19], 0), (.iload_n 1, [], 0), (.iload_n 3, [], 0), (.if_icmp .ge 7, [19], 0), (.nop, [15], 0)]),
  (15, [(.iconst 1, [], 0), (.goto 4, [20], 0)]),
  (19, [(.iconst 0, [], 0), (.nop, [20], 0)]),
  (20, [(.ireturn, [1], 0)])]
/-- MindReaders.changeOf(LMindReaders$Code;LMindReaders$Code;)I -/
def zc_56 : List (Nat × List zE) := [(0, [(.iconst 0, [], 0), (.istore_n 3, [], 0), (.iconst 0, [], 0), (.istore 4, [], 0), (.nop, [5, 1, 1, 1, 1, 1], 0)]),
  (5, [(.iload 4, [], 0), (.aload_n 2, [], 0), (.invokevirtual 153, [148, 1, 1, 1, 0], 0), (.if_icmp .ge 46, [57, 0, 0, 0, 1], 0), (.iload 4, [], 0), (.aload_n 1, [], 0), (.invokevirtual 153, [148, 1, 1, 1, 0], 0), (.if_icmp .ge 21, [41, 1, 1, 1, 1, 1], 0), (.aload_n 1, [], 0), (.iload 4, [], 0), (.invokevirtual 154, [149, 2, 3, 2, 0], 0), (.aload_n 2, [], 0), (.iload 4, [], 0), (.invokevirtual 154, [149, 2, 3, 2, 0], 0), (.invokevirtual 342, [178, 2, 1, 2, 3], 0), (.ifCond .ne 13, [51, 1, 1, 1, 1, 1], 0), (.nop, [41, 1, 1, 1, 1, 1], 0)]),
  (41, [(.iload_n 3, [], 0), (.aload_n 0, [], 0), (.aload_n 2, [], 0), (.iload 4, [], 0), (.invokevirtual 161, [51, 3, 1, 3, 6], 0), (.iadd, [], 0), (.istore_n 3, [], 0), (.nop, [51, 1, 1, 1, 1, 1], 0)]),
  (51, [(.iinc 4 1, [], 0), (.goto (-49), [5, 1, 1, 1, 1, 1], 0)]),
  (57, [(.iload_n 3, [], 0), (.ireturn, [0], 0)])]
/-- MindReaders.notesLet(LMindReaders$Code;II)Z -/
def zc_57 : List (Nat × List zE) := [(0, [(.iconst 0, [], 0), (.istore 4, [], 0), (.nop, [3, 1, 1, 1, 1, 1], 0)]),
  (3, [(.iload 4, [], 0), (.aload_n 0, [], 0), (.getfield 37, [6, 5, 2], 0), (.invokevirtual 236, [159, 1, 1, 1, 1], 0), (.if_icmp .ge 76, [88], 0), (.aload_n 0, [], 0), (.getfield 37, [6, 5, 2], 0), (.iload 4, [], 0), (.invokevirtual 292, [160, 2, 1, 2, 1], 0), (.istore 5, [], 0), (.iload 5, [], 0), (.ifCond .lt 9, [37], 0), (.iload 5, [], 0), (.iload_n 2, [], 0), (.if_icmp .lt 5, [39, 1, 1, 1, 1, 1, 1], 0), (.nop, [37], 0)]),
  (37, [(.iconst 0, [], 0), (.ireturn, [1], 0)]),
  (39, [(.aload_n 0, [], 0), (.getfield 12, [6, 0, 2], 0), (.aload_n 0, [], 0), (.getfield 37, [6, 5, 2], 0), (.iload 4, [], 0), (.invokevirtual 295, [161, 2, 3, 2, 1], 0), (.iconst 0, [], 0), (.aload_n 0, [], 0), (.getfield 50, [6, 10, 2], 0), (.invokevirtual 324, [198, 4, 0, 7, 5], 0), (.aload_n 0, [], 0), (.getfield 50, [6, 10, 2], 0), (.aload_n 1, [], 0), (.iload 5, [], 0), (.iload_n 3, [], 0), (.iadd, [], 0), (.iload_n 2, [], 0), (.irem, [], 0), (.invokevirtual 158, [150, 2, 3, 2, 0], 0), (.invokevirtual 342, [178, 2, 1, 2, 3], 0), (.ifCond .ne 5, [82, 1, 1, 1, 1, 1], 0), (.iconst 0, [], 0), (.ireturn, [1], 0)]),
  (82, [(.iinc 4 1, [], 0), (.goto (-82), [3, 1, 1, 1, 1, 1], 0)]),
  (88, [(.iconst 1, [], 0), (.ireturn, [1], 0)])]
/-- MindReaders.leastLong(I)J -/
def zc_58 : List (Nat × List zE) := [(0, [(.aload_n 0, [], 0), (.getfield 53, [6, 11, 2], 0), (.aload_n 0, [], 0), (.getfield 21, [6, 1, 2], 0), (.invokevirtual 265, [177, 2, 0, 3, 3], 0), (.aload_n 0, [], 0), (.getfield 53, [6, 11, 2], 0), (.invokevirtual 77, [171, 1, 1, 1, 3], 0), (.iconst 2, [], 0), (.if_icmp .lt 8, [27], 0), (.iload_n 1, [], 0), (.iconst 2, [], 0), (.if_icmp .ge 5, [29, 1, 1], 0), (.nop, [27], 0)]),
  (27, [(.lconst 0, [], 0), (.lreturn, [], 0)]),
  (29, [(.lconst 0, [], 0), (.lstore_n 2, [], 0), (.iconst 2, [], 0), (.aload_n 0, [], 0), (.getfield 53, [6, 11, 2], 0), (.invokevirtual 77, [171, 1, 1, 1, 3], 0), (.iconst 2, [], 0), (.isub, [], 0), (.iload_n 1, [], 0), (.iconst 1, [], 0), (.isub, [], 0), (.irem, [], 0), (.iadd, [], 0), (.istore 4, [], 0), (.iconst 0, [], 0), (.istore 5, [], 0), (.nop, [51, 1, 1, 1, 0, 1, 1], 0)]),
  (51, [(.iload 5, [], 0), (.bipush 8, [], 0), (.if_icmp .ge 69, [124, 0, 0, 1], 0), (.aload_n 0, [], 0), (.getfield 53, [6, 11, 2], 0), (.invokevirtual 77, [171, 1, 1, 1, 3], 0), (.iconst 1, [], 0), (.if_icmp .le 58, [124, 0, 0, 1], 0), (.iconst 0, [], 0), (.istore 6, [], 0), (.iconst 0, [], 0), (.istore 7, [], 0), (.nop, [75, 1, 1, 1, 0, 1, 1, 1, 1], 0)]),
  (75, [(.iload 7, [], 0), (.iload 4, [], 0), (.if_icmp .ge 21, [100, 1, 1, 1, 0, 0, 1, 1], 0), (.iload 6, [], 0), (.aload_n 0, [], 0), (.getfield 53, [6, 11, 2], 0), (.invokevirtual 346, [183, 1, 1, 3, 3], 0), (.iadd, [], 0), (.istore 6, [], 0), (.iinc 7 1, [], 0), (.goto (-22), [75, 1, 1, 1, 0, 1, 1, 1, 1], 0)]),
  (100, [(.aload_n 0, [], 0), (.getfield 53, [6, 11, 2], 0), (.iload 6, [], 0), (.invokevirtual 85, [174, 2, 0, 2, 3], 0), (.lload_n 2, [], 0), (.iload 6, [], 0), (.i2l, [], 0), (.ladd, [], 0), (.lstore_n 2, [], 0), (.iload_n 1, [], 0), (.istore 4, [], 0), (.iinc 5 1, [], 0), (.goto (-70), [51, 1, 1, 1, 0, 1, 1], 0)]),
  (124, [(.lload_n 2, [], 0), (.lreturn, [], 0)])]
/-- MindReaders.waysNamed(LMindReaders$Code;III)J -/
def zc_59 : List (Nat × List zE) := [(0, [(.aload_n 1, [], 0), (.iload_n 2, [], 0), (.invokevirtual 158, [150, 2, 3, 2, 0], 0), (.astore 5, [], 0), (.aload_n 0, [], 0), (.getfield 50, [6, 10, 2], 0), (.invokevirtual 88, [176, 1, 0, 1, 3], 0), (.iconst 0, [], 0), (.istore 6, [], 0), (.nop, [17, 1, 1, 1, 1, 1, 1, 1], 0)]),
  (17, [(.iload 6, [], 0), (.aload 5, [], 0), (.invokevirtual 77, [171, 1, 1, 1, 3], 0), (.if_icmp .ge 17, [41, 1, 1, 1, 1, 1, 1], 0), (.aload_n 0, [], 0), (.getfield 50, [6, 10, 2], 0), (.iconst 0, [], 0), (.invokevirtual 85, [174, 2, 0, 2, 3], 0), (.iinc 6 1, [], 0), (.goto (-21), [17, 1, 1, 1, 1, 1, 1, 1], 0)]),
  (41, [(.lconst 0, [], 0), (.lstore 6, [], 0), (.iload_n 3, [], 0), (.i2l, [], 0), (.aload 5, [], 0), (.invokevirtual 77, [171, 1, 1, 1, 3], 0), (.invokestatic 229, [63, 2, 2, 6], 0), (.lstore 8, [], 0), (.iconst 0, [], 0), (.istore 10, [], 0), (.nop, [59, 1, 1, 1, 1, 1, 1, 1, 0, 1, 0, 1], 0)]),
  (59, [(.iload 10, [], 0), (.i2l, [], 0), (.lload 8, [], 0), (.lcmp, [], 0), (.ifCond .ge 54, [119, 0, 0, 0, 0, 0, 0, 1], 0), (.aload_n 0, [], 0), (.aload 5, [], 0), (.iload_n 3, [], 0), (.iload 4, [], 0), (.invokevirtual 349, [60, 4, 2, 7, 6], 0), (.lstore 11, [], 0), (.lload 11, [], 0), (.lconst 0, [], 0), (.lcmp, [], 0), (.ifCond .le 22, [105, 1, 1, 1, 1, 1, 1, 1, 0, 1, 0, 1], 0), (.aload_n 1, [], 0), (.aload_n 0, [], 0), (.getfield 50, [6, 10, 2], 0), (.invokevirtual 213, [157, 2, 1, 6, 0], 0), (.iload_n 2, [], 0), (.if_icmp .ne 10, [105, 1, 1, 1, 1, 1, 1, 1, 0, 1, 0, 1], 0), (.lload 6, [], 0), (.lload 11, [], 0), (.ladd, [], 0), (.lstore 6, [], 0), (.nop, [105, 1, 1, 1, 1, 1, 1, 1, 0, 1, 0, 1], 0)]),
  (105, [(.aload_n 0, [], 0), (.getfield 50, [6, 10, 2], 0), (.iload_n 3, [], 0), (.invokevirtual 353, [184, 2, 0, 4, 3], 0), (.iinc 10 1, [], 0), (.goto (-57), [59, 1, 1, 1, 1, 1, 1, 1, 0, 1, 0, 1], 0)]),
  (119, [(.lload 6, [], 0), (.lreturn, [], 0)])]
/-- MindReaders.waysHeard(LMindReaders$Row;II)J -/
def zc_60 : List (Nat × List zE) := [(0, [(.lconst 1, [], 0), (.lstore 4, [], 0), (.iconst 0, [], 0), (.istore 6, [], 0), (.nop, [6, 1, 1, 1, 1, 1, 0, 1], 0)]),
  (6, [(.iload 6, [], 0), (.aload_n 1, [], 0), (.invokevirtual 77, [171, 1, 1, 1, 3], 0), (.if_icmp .ge 46, [58, 0, 0, 0, 0, 1], 0), (.lload 4, [], 0), (.aload_n 0, [], 0), (.getfield 50, [6, 10, 2], 0), (.iload 6, [], 0), (.invokevirtual 94, [172, 2, 1, 2, 3], 0), (.aload_n 1, [], 0), (.iload 6, [], 0), (.invokevirtual 94, [172, 2, 1, 2, 3], 0), (.if_icmp .ne 15, [47, 1, 1, 1, 1, 0, 0, 1], 0), (.bipush 10, [], 0), (.iload_n 3, [], 0), (.isub, [], 0), (.iload_n 2, [], 0), (.iconst 1, [], 0), (.isub, [], 0), (.imul, [], 0), (.i2l, [], 0), (.goto 5, [49, 1, 1, 1, 1, 0, 0, 1], 0)]),
  (47, [(.iload_n 3, [], 0), (.i2l, [], 0), (.nop, [49, 1, 1, 1, 1, 0, 0, 1], 0)]),
  (49, [(.lmul, [], 0), (.lstore 4, [], 0), (.iinc 6 1, [], 0), (.goto (-49), [6, 1, 1, 1, 1, 1, 0, 1], 0)]),
  (58, [(.lload 4, [], 0), (.lreturn, [], 0)])]
/-- MindReaders.waysAllSeen(I)J -/
def zc_61 : List (Nat × List zE) := [(0, [(.aload_n 0, [], 0), (.getfield 21, [6, 1, 2], 0), (.invokevirtual 77, [171, 1, 1, 1, 3], 0), (.istore_n 2, [], 0), (.iload_n 2, [], 0), (.iload_n 1, [], 0), (.if_icmp .le 5, [15, 1, 1, 1], 0), (.lconst 0, [], 0), (.lreturn, [], 0)]),
  (15, [(.lconst 0, [], 0), (.lstore_n 3, [], 0), (.iconst 0, [], 0), (.istore 5, [], 0), (.nop, [20, 1, 1, 1, 1, 0, 1], 0)]),
  (20, [(.iload 5, [], 0), (.iconst 1, [], 0), (.iload_n 2, [], 0), (.ishl, [], 0), (.if_icmp .ge 94, [119, 0, 0, 0, 1], 0), (.iconst 0, [], 0), (.istore 6, [], 0), (.iconst 0, [], 0), (.istore 7, [], 0), (.nop, [34, 1, 1, 1, 1, 0, 1, 1, 1], 0)]),
  (34, [(.iload 7, [], 0), (.iload_n 2, [], 0), (.if_icmp .ge 31, [68, 1, 1, 1, 1, 0, 1, 1], 0), (.iload 6, [], 0), (.iload 5, [], 0), (.iload 7, [], 0), (.ishr, [], 0), (.iconst 1, [], 0), (.iand, [], 0), (.aload_n 0, [], 0), (.getfield 21, [6, 1, 2], 0), (.iload 7, [], 0), (.invokevirtual 94, [172, 2, 1, 2, 3], 0), (.imul, [], 0), (.iadd, [], 0), (.istore 6, [], 0), (.iinc 7 1, [], 0), (.goto (-31), [34, 1, 1, 1, 1, 0, 1, 1, 1], 0)]),
  (68, [(.iload_n 2, [], 0), (.iload 5, [], 0), (.invokestatic 260, [199, 1, 1, 1], 0), (.isub, [], 0), (.iconst 2, [], 0), (.irem, [], 0), (.ifCond .ne 7, [84, 1, 1, 1, 1, 0, 1, 1], 0), (.iconst 1, [], 0), (.goto 4, [85, 1, 1, 1, 1, 0, 1, 1], 0)]),
  (84, [(.iconst 0, [], 0), (.nop, [85, 1, 1, 1, 1, 0, 1, 1], 0)]),
  (85, [(.istore 7, [], 0), (.lload_n 3, [], 0), (.iload 7, [], 0), (.ifCond .eq 13, [103, 1, 1, 1, 0, 0, 1, 1], 0), (.iload 6, [], 0), (.i2l, [], 0), (.iload_n 1, [], 0), (.invokestatic 229, [63, 2, 2, 6], 0), (.goto 11, [111, 1, 1, 1, 0, 0, 1], 0)]),
  (103, [(.iload 6, [], 0), (.i2l, [], 0), (.iload_n 1, [], 0), (.invokestatic 229, [63, 2, 2, 6], 0), (.lneg, [], 0), (.nop, [111, 1, 1, 1, 0, 0, 1], 0)]),
  (111, [(.ladd, [], 0), (.lstore_n 3, [], 0), (.iinc 5 1, [], 0), (.goto (-96), [20, 1, 1, 1, 1, 0, 1], 0)]),
  (119, [(.lload_n 3, [], 0), (.lreturn, [], 0)])]
/-- MindReaders.choices(II)J -/
def zc_62 : List (Nat × List zE) := [(0, [(.lconst 1, [], 0), (.lstore_n 2, [], 0), (.iconst 1, [], 0), (.istore 4, [], 0), (.nop, [5, 1, 1, 1, 0, 1], 0)]),
  (5, [(.iload 4, [], 0), (.iload_n 1, [], 0), (.if_icmp .gt 23, [31, 0, 0, 1], 0), (.lload_n 2, [], 0), (.iload_n 0, [], 0), (.iload_n 1, [], 0), (.isub, [], 0), (.iload 4, [], 0), (.iadd, [], 0), (.i2l, [], 0), (.lmul, [], 0), (.iload 4, [], 0), (.i2l, [], 0), (.ldiv, [], 0), (.lstore_n 2, [], 0), (.iinc 4 1, [], 0), (.goto (-23), [5, 1, 1, 1, 0, 1], 0)]),
  (31, [(.lload_n 2, [], 0), (.lreturn, [], 0)])]
/-- MindReaders.power(JI)J -/
def zc_63 : List (Nat × List zE) := [(0, [(.lconst 1, [], 0), (.lstore_n 3, [], 0), (.iconst 0, [], 0), (.istore 5, [], 0), (.nop, [5, 1, 0, 1, 1, 0, 1], 0)]),
  (5, [(.iload 5, [], 0), (.iload_n 2, [], 0), (.if_icmp .ge 13, [21, 0, 0, 0, 1], 0), (.lload_n 3, [], 0), (.lload_n 0, [], 0), (.lmul, [], 0), (.lstore_n 3, [], 0), (.iinc 5 1, [], 0), (.goto (-13), [5, 1, 0, 1, 1, 0, 1], 0)]),
  (21, [(.lload_n 3, [], 0), (.lreturn, [], 0)])]
/-- MindReaders.lowest(JJI)J -/
def zc_64 : List (Nat × List zE) := [(0, [(.lload_n 0, [], 0), (.lstore 5, [], 0), (.lload_n 2, [], 0), (.lstore 7, [], 0), (.iconst 0, [], 0), (.istore 9, [], 0), (.nop, [9, 1, 0, 1, 0, 1, 1, 0, 1, 0, 1], 0)]),
  (9, [(.iload 9, [], 0), (.sipush 128, [], 0), (.if_icmp .ge 31, [45, 1, 0, 1, 0, 1, 1], 0), (.lload 7, [], 0), (.lconst 0, [], 0), (.lcmp, [], 0), (.ifCond .eq 24, [45, 1, 0, 1, 0, 1, 1], 0), (.lload 5, [], 0), (.lload 7, [], 0), (.lrem, [], 0), (.lstore 10, [], 0), (.lload 7, [], 0), (.lstore 5, [], 0), (.lload 10, [], 0), (.lstore 7, [], 0), (.iinc 9 1, [], 0), (.goto (-33), [9, 1, 0, 1, 0, 1, 1, 0, 1, 0, 1], 0)]),
  (45, [(.lload 5, [], 0), (.lconst 0, [], 0), (.lcmp, [], 0), (.ifCond .ne 5, [54, 1, 0, 1, 0, 1, 1], 0), (.lconst 0, [], 0), (.lreturn, [], 0)]),
  (54, [(.iload 4, [], 0), (.ifCond .ne 10, [66, 0, 0, 1, 0, 0, 1], 0), (.lload_n 0, [], 0), (.lload 5, [], 0), (.ldiv, [], 0), (.goto 7, [70], 0)]),
  (66, [(.lload_n 2, [], 0), (.lload 5, [], 0), (.ldiv, [], 0), (.nop, [70], 0)]),
  (70, [(.lreturn, [], 0)])]
/-- MindReaders.unlike(LMindReaders$Code;II)I -/
def zc_65 : List (Nat × List zE) := [(0, [(.iconst 0, [], 0), (.istore 4, [], 0), (.iconst 0, [], 0), (.istore 5, [], 0), (.nop, [6, 1, 1, 1, 1, 1, 1], 0)]),
  (6, [(.iload 5, [], 0), (.aload_n 1, [], 0), (.invokevirtual 153, [148, 1, 1, 1, 0], 0), (.if_icmp .ge 101, [113, 0, 0, 0, 0, 1], 0), (.iload 4, [], 0), (.iload_n 3, [], 0), (.if_icmp .ge 95, [113, 0, 0, 0, 0, 1], 0), (.aload_n 0, [], 0), (.getfield 12, [6, 0, 2], 0), (.aload_n 1, [], 0), (.iload 5, [], 0), (.invokevirtual 154, [149, 2, 3, 2, 0], 0), (.iload_n 2, [], 0), (.aload_n 0, [], 0), (.getfield 61, [6, 12, 2], 0), (.iload 5, [], 0), (.invokevirtual 356, [186, 2, 3, 3, 4], 0), (.invokevirtual 324, [198, 4, 0, 7, 5], 0), (.iconst 1, [], 0), (.istore 6, [], 0), (.iconst 0, [], 0), (.istore 7, [], 0), (.nop, [50, 1, 1, 1, 1, 1, 1, 1, 1], 0)]),
  (50, [(.iload 7, [], 0), (.iload 5, [], 0), (.if_icmp .ge 45, [99, 1, 1, 1, 1, 1, 1, 1], 0), (.iload 6, [], 0), (.ifCond .eq 40, [99, 1, 1, 1, 1, 1, 1, 1], 0), (.aload_n 0, [], 0), (.getfield 61, [6, 12, 2], 0), (.iload 7, [], 0), (.invokevirtual 356, [186, 2, 3, 3, 4], 0), (.aload_n 0, [], 0), (.getfield 61, [6, 12, 2], 0), (.iload 5, [], 0), (.invokevirtual 356, [186, 2, 3, 3, 4], 0), (.invokevirtual 342, [178, 2, 1, 2, 3], 0), (.ifCond .ne 7, [90, 1, 1, 1, 1, 1, 1, 0, 1], 0), (.iconst 1, [], 0), (.goto 4, [91, 1, 1, 1, 1, 1, 1, 0, 1], 0)]),
  (90, [(.iconst 0, [], 0), (.nop, [91, 1, 1, 1, 1, 1, 1, 0, 1], 0)]),
  (91, [(.istore 6, [], 0), (.iinc 7 1, [], 0), (.goto (-46), [50, 1, 1, 1, 1, 1, 1, 1, 1], 0)]),
  (99, [(.iload 6, [], 0), (.ifCond .eq 6, [107, 1, 1, 1, 1, 1, 1], 0), (.iinc 4 1, [], 0), (.nop, [107, 1, 1, 1, 1, 1, 1], 0)]),
  (107, [(.iinc 5 1, [], 0), (.goto (-104), [6, 1, 1, 1, 1, 1, 1], 0)]),
  (113, [(.iload 4, [], 0), (.ireturn, [0], 0)])]
/-- MindReadersModel.<init>()V -/
def zc_66 : List (Nat × List zE) := [(0, [(.aload_n 0, [], 0), (.invokespecial 1, [], 0), (.aload_n 0, [], 0), (.bipush 48, [], 0), (.newarray .int, [0], 0), (.putfield 7, [7, 0, 2], 0), (.aload_n 0, [], 0), (.bipush 48, [], 0), (.newarray .int, [0], 0), (.putfield 13, [7, 4, 2], 0), (.aload_n 0, [], 0), (.iconst 4, [], 0), (.newarray .int, [0], 0), (.putfield 16, [7, 6, 2], 0), (.aload_n 0, [], 0), (.sipush 192, [], 0), (.newarray .int, [0], 0), (.putfield 19, [7, 7, 2], 0), (.aload_n 0, [], 0), (.bipush 32, [], 0), (.newarray .int, [0], 0), (.putfield 22, [7, 9, 2], 0), (.aload_n 0, [], 0), (.bipush 8, [], 0), (.newarray .int, [0], 0), (.putfield 25, [7, 11, 2], 0), (.aload_n 0, [], 0), (.bipush 96, [], 0), (.newarray .int, [0], 0), (.putfield 28, [7, 12, 2], 0), (.aload_n 0, [], 0), (.bipush 88, [], 0), (.newarray .int, [0], 0), (.putfield 31, [7, 14, 2], 0), (.aload_n 0, [], 0), (.bipush 88, [], 0), (.newarray .int, [0], 0), (.putfield 34, [7, 15, 2], 0), (.aload_n 0, [], 0), (.bipush 16, [], 0), (.newarray .int, [0], 0), (.putfield 37, [7, 17, 2], 0), (.aload_n 0, [], 0), (.bipush 100, [], 0), (.newarray .int, [0], 0), (.putfield 40, [7, 19, 2], 0), (.aload_n 0, [], 0), (.sipush 256, [], 0), (.newarray .long, [1], 0), (.putfield 43, [7, 20, 2], 0), (.aload_n 0, [], 0), (.sipush 256, [], 0), (.newarray .long, [1], 0), (.putfield 47, [7, 21, 2], 0), (.aload_n 0, [], 0), (.bipush 8, [], 0), (.newarray .int, [0], 0), (.putfield 50, [7, 24, 2], 0), (.aload_n 0, [], 0), (.bipush 100, [], 0), (.newarray .int, [0], 0), (.putfield 53, [7, 25, 2], 0), (.aload_n 0, [], 0), (.iconst (-1), [], 0), (.putfield 56, [7, 22, 0], 0), (.return_, [], 0)])]
/-- MindReadersModel.in(JJJ)Z -/
def zc_67 : List (Nat × List zE) := [(0, [(.lload_n 0, [], 0), (.lload_n 2, [], 0), (.lcmp, [], 0), (.ifCond .lt 14, [17], 0), (.lload_n 0, [], 0), (.lload 4, [], 0), (.lcmp, [], 0), (.ifCond .gt 7, [17], 0), (.iconst 1, [], 0), (.goto 4, [18], 0)]),
  (17, [(.iconst 0, [], 0), (.nop, [18], 0)]),
  (18, [(.ireturn, [1], 0)])]
/-- MindReadersModel.letters(J)I -/
def zc_68 : List (Nat × List zE) := [(0, [(.iconst 0, [], 0), (.istore_n 3, [], 0), (.iconst 1, [], 0), (.istore 4, [], 0), (.lload_n 1, [], 0), (.lstore 5, [], 0), (.iconst 0, [], 0), (.istore 7, [], 0), (.nop, [11, 1, 1, 0, 1, 1, 1, 0, 1], 0)]),
  (11, [(.iload 7, [], 0), (.bipush 8, [], 0), (.if_icmp .ge 68, [83, 1, 1, 0, 1, 1], 0), (.lload 5, [], 0), (.ldc2_w 60, [], 255), (.land, [], 0), (.l2i, [], 0), (.istore 8, [], 0), (.lload 5, [], 0), (.bipush 8, [], 0), (.lushr, [], 0), (.lstore 5, [], 0), (.iload 4, [], 0), (.ifCond .eq 25, [61, 1, 1, 0, 1, 0, 1, 0, 1, 1], 0), (.iload 8, [], 0), (.bipush 126, [], 0), (.if_icmp .gt 18, [61, 1, 1, 0, 1, 0, 1, 0, 1, 1], 0), (.iload 8, [], 0), (.ifCond .eq 9, [57, 1, 1, 0, 1, 0, 1, 0, 1, 1], 0), (.iload_n 3, [], 0), (.iload 7, [], 0), (.if_icmp .ne 7, [61, 1, 1, 0, 1, 0, 1, 0, 1, 1], 0), (.nop, [57, 1, 1, 0, 1, 0, 1, 0, 1, 1], 0)]),
  (57, [(.iconst 1, [], 0), (.goto 4, [62, 1, 1, 0, 1, 0, 1, 0, 1, 1], 0)]),
  (61, [(.iconst 0, [], 0), (.nop, [62, 1, 1, 0, 1, 0, 1, 0, 1, 1], 0)]),
  (62, [(.istore 4, [], 0), (.iload_n 3, [], 0), (.iload 8, [], 0), (.ifCond .le 7, [74, 1, 1, 0, 0, 1, 1, 0, 1], 0), (.iconst 1, [], 0), (.goto 4, [75, 1, 1, 0, 0, 1, 1, 0, 1], 0)]),
  (74, [(.iconst 0, [], 0), (.nop, [75, 1, 1, 0, 0, 1, 1, 0, 1], 0)]),
  (75, [(.iadd, [], 0), (.istore_n 3, [], 0), (.iinc 7 1, [], 0), (.goto (-69), [11, 1, 1, 0, 1, 1, 1, 0, 1], 0)]),
  (83, [(.iload 4, [], 0), (.ifCond .ne 6, [91, 1, 1, 0, 1], 0), (.bipush (-102), [], 0), (.ireturn, [0], 0)]),
  (91, [(.aload_n 0, [], 0), (.getfield 62, [7, 1, 0], 0), (.iload_n 3, [], 0), (.iadd, [], 0), (.bipush 48, [], 0), (.if_icmp .le 6, [105, 1, 1, 0, 1], 0), (.bipush (-104), [], 0), (.ireturn, [0], 0)]),
  (105, [(.iconst 0, [], 0), (.istore 7, [], 0), (.nop, [108, 1, 1, 0, 1, 0, 0, 0, 1], 0)]),
  (108, [(.iload 7, [], 0), (.iload_n 3, [], 0), (.if_icmp .ge 40, [151, 1], 0), (.aload_n 0, [], 0), (.getfield 7, [7, 0, 2], 0), (.aload_n 0, [], 0), (.getfield 62, [7, 1, 0], 0), (.lload_n 1, [], 0), (.bipush 8, [], 0), (.iload 7, [], 0), (.imul, [], 0), (.lushr, [], 0), (.ldc2_w 60, [], 255), (.land, [], 0), (.l2i, [], 0), (.iastore, [], 0), (.aload_n 0, [], 0), (.dup, [], 0), (.getfield 62, [7, 1, 0], 0), (.iconst 1, [], 0), (.iadd, [], 0), (.putfield 62, [7, 1, 0], 0), (.iinc 7 1, [], 0), (.goto (-40), [108, 1, 1, 0, 1, 0, 0, 0, 1], 0)]),
  (151, [(.aload_n 0, [], 0), (.getfield 62, [7, 1, 0], 0), (.ireturn, [0], 0)])]
/-- MindReadersModel.blank()I -/
def zc_69 : List (Nat × List zE) := [(0, [(.aload_n 0, [], 0), (.getfield 62, [7, 1, 0], 0), (.istore_n 1, [], 0), (.aload_n 0, [], 0), (.iconst 0, [], 0), (.putfield 62, [7, 1, 0], 0), (.iload_n 1, [], 0), (.ireturn, [0], 0)])]
/-- MindReadersModel.go(I)Z -/
def zc_70 : List (Nat × List zE) := [(0, [(.iload_n 1, [], 0), (.bipush 44, [], 0), (.if_icmp .ne 42, [45, 1, 1], 0), (.aload_n 0, [], 0), (.getfield 65, [7, 3, 0], 0), (.ifCond .le 16, [26, 1], 0), (.aload_n 0, [], 0), (.getfield 68, [7, 2, 0], 0), (.bipush 7, [], 0), (.if_icmp .ge 7, [26, 1], 0), (.iconst 1, [], 0), (.goto 4, [27, 1], 0)]),
  (26, [(.iconst 0, [], 0), (.nop, [27, 1], 0)]),
  (27, [(.istore_n 2, [], 0), (.aload_n 0, [], 0), (.dup, [], 0), (.getfield 68, [7, 2, 0], 0), (.iconst 1, [], 0), (.iadd, [], 0), (.putfield 68, [7, 2, 0], 0), (.aload_n 0, [], 0), (.iconst 0, [], 0), (.putfield 65, [7, 3, 0], 0), (.iload_n 2, [], 0), (.ireturn, [1], 0)]),
  (45, [(.iload_n 1, [], 0), (.i2l, [], 0), (.ldc2_w 71, [], 97), (.ldc2_w 73, [], 104), (.invokestatic 75, [67, 3, 1, 6], 0), (.ifCond .eq 15, [71, 1, 1], 0), (.aload_n 0, [], 0), (.getfield 65, [7, 3, 0], 0), (.iconst 5, [], 0), (.if_icmp .ge 7, [71, 1, 1], 0), (.iconst 1, [], 0), (.goto 4, [72, 1, 1], 0)]),
  (71, [(.iconst 0, [], 0), (.nop, [72, 1, 1], 0)]),
  (72, [(.istore_n 2, [], 0), (.iload_n 2, [], 0), (.ifCond .eq 50, [124, 0, 0, 1], 0), (.aload_n 0, [], 0), (.dup, [], 0), (.getfield 65, [7, 3, 0], 0), (.iconst 1, [], 0), (.iadd, [], 0), (.putfield 65, [7, 3, 0], 0), (.aload_n 0, [], 0), (.getfield 13, [7, 4, 2], 0), (.bipush 6, [], 0), (.aload_n 0, [], 0), (.getfield 68, [7, 2, 0], 0), (.imul, [], 0), (.aload_n 0, [], 0), (.getfield 65, [7, 3, 0], 0), (.iastore, [], 0), (.aload_n 0, [], 0), (.getfield 13, [7, 4, 2], 0), (.bipush 6, [], 0), (.aload_n 0, [], 0), (.getfield 68, [7, 2, 0], 0), (.imul, [], 0), (.aload_n 0, [], 0), (.getfield 65, [7, 3, 0], 0), (.iadd, [], 0), (.iload_n 1, [], 0), (.bipush 97, [], 0), (.isub, [], 0), (.iastore, [], 0), (.nop, [124, 0, 0, 1], 0)]),
  (124, [(.iload_n 2, [], 0), (.ireturn, [1], 0)])]
/-- MindReadersModel.faultOf()I -/
def zc_71 : List (Nat × List zE) := [(0, [(.aload_n 0, [], 0), (.iconst 0, [], 0), (.putfield 68, [7, 2, 0], 0), (.aload_n 0, [], 0), (.iconst 0, [], 0), (.putfield 65, [7, 3, 0], 0), (.iconst 0, [], 0), (.istore_n 1, [], 0), (.nop, [12, 1, 1], 0)]),
  (12, [(.iload_n 1, [], 0), (.aload_n 0, [], 0), (.getfield 62, [7, 1, 0], 0), (.if_icmp .ge 22, [39, 0, 1], 0), (.aload_n 0, [], 0), (.aload_n 0, [], 0), (.getfield 7, [7, 0, 2], 0), (.iload_n 1, [], 0), (.iaload, [], 0), (.invokevirtual 79, [70, 2, 1, 3, 7], 0), (.ifCond .eq 9, [39, 0, 1], 0), (.iinc 1 1, [], 0), (.goto (-24), [12, 1, 1], 0)]),
  (39, [(.iload_n 1, [], 0), (.ireturn, [0], 0)])]
/-- MindReadersModel.fault()I -/
def zc_72 : List (Nat × List zE) := [(0, [(.aload_n 0, [], 0), (.invokevirtual 83, [71, 1, 1, 2, 7], 0), (.ireturn, [0], 0)])]
/-- MindReadersModel.code()I -/
def zc_73 : List (Nat × List zE) := [(0, [(.aload_n 0, [], 0), (.invokevirtual 83, [71, 1, 1, 2, 7], 0), (.aload_n 0, [], 0), (.getfield 62, [7, 1, 0], 0), (.if_icmp .lt 10, [18], 0), (.aload_n 0, [], 0), (.getfield 65, [7, 3, 0], 0), (.ifCond .ne 6, [21, 1], 0), (.nop, [18], 0)]),
  (18, [(.bipush (-103), [], 0), (.ireturn, [0], 0)]),
  (21, [(.aload_n 0, [], 0), (.getfield 87, [7, 5, 0], 0), (.iconst 4, [], 0), (.if_icmp .ne 6, [32, 1], 0), (.bipush (-104), [], 0), (.ireturn, [0], 0)]),
  (32, [(.aload_n 0, [], 0), (.getfield 16, [7, 6, 2], 0), (.aload_n 0, [], 0), (.getfield 87, [7, 5, 0], 0), (.aload_n 0, [], 0), (.getfield 68, [7, 2, 0], 0), (.iconst 1, [], 0), (.iadd, [], 0), (.iastore, [], 0), (.iconst 0, [], 0), (.istore_n 1, [], 0), (.nop, [49, 1, 1], 0)]),
  (49, [(.iload_n 1, [], 0), (.bipush 48, [], 0), (.if_icmp .ge 29, [81, 1], 0), (.aload_n 0, [], 0), (.getfield 19, [7, 7, 2], 0), (.bipush 48, [], 0), (.aload_n 0, [], 0), (.getfield 87, [7, 5, 0], 0), (.imul, [], 0), (.iload_n 1, [], 0), (.iadd, [], 0), (.aload_n 0, [], 0), (.getfield 13, [7, 4, 2], 0), (.iload_n 1, [], 0), (.iaload, [], 0), (.iastore, [], 0), (.iinc 1 1, [], 0), (.goto (-29), [49, 1, 1], 0)]),
  (81, [(.aload_n 0, [], 0), (.dup, [], 0), (.getfield 87, [7, 5, 0], 0), (.iconst 1, [], 0), (.iadd, [], 0), (.putfield 87, [7, 5, 0], 0), (.aload_n 0, [], 0), (.iconst 0, [], 0), (.putfield 62, [7, 1, 0], 0), (.aload_n 0, [], 0), (.getfield 87, [7, 5, 0], 0), (.iconst 1, [], 0), (.isub, [], 0), (.ireturn, [0], 0)])]
/-- MindReadersModel.isCode(I)Z -/
def zc_74 : List (Nat × List zE) := [(0, [(.iload_n 1, [], 0), (.i2l, [], 0), (.lconst 0, [], 0), (.aload_n 0, [], 0), (.getfield 87, [7, 5, 0], 0), (.iconst 1, [], 0), (.isub, [], 0), (.i2l, [], 0), (.invokestatic 75, [67, 3, 1, 6], 0), (.ireturn, [1], 0)])]
/-- MindReadersModel.signal(IIII)I -/
def zc_75 : List (Nat × List zE) := [(0, [(.iload_n 1, [], 0), (.i2l, [], 0), (.lconst 0, [], 0), (.ldc2_w 90, [], 4), (.invokestatic 75, [67, 3, 1, 6], 0), (.ifCond .ne 6, [15, 1, 1, 1, 1, 1], 0), (.bipush (-102), [], 0), (.ireturn, [0], 0)]),
  (15, [(.iload_n 1, [], 0), (.iconst 2, [], 0), (.if_icmp .ne 39, [56, 1, 1, 1, 1, 1], 0), (.iload_n 2, [], 0), (.i2l, [], 0), (.lconst 0, [], 0), (.aload_n 0, [], 0), (.getfield 92, [7, 8, 0], 0), (.iconst 1, [], 0), (.isub, [], 0), (.i2l, [], 0), (.invokestatic 75, [67, 3, 1, 6], 0), (.ifCond .eq 19, [52, 1, 1, 1, 1, 1], 0), (.aload_n 0, [], 0), (.getfield 22, [7, 9, 2], 0), (.iconst 4, [], 0), (.iload_n 2, [], 0), (.imul, [], 0), (.iaload, [], 0), (.iconst 2, [], 0), (.if_icmp .ge 7, [52, 1, 1, 1, 1, 1], 0), (.iconst 1, [], 0), (.goto 17, [66, 1, 1, 1, 1, 1], 0)]),
  (52, [(.iconst 0, [], 0), (.goto 13, [66, 1, 1, 1, 1, 1], 0)]),
  (56, [(.iload_n 2, [], 0), (.iconst (-1), [], 0), (.if_icmp .ne 7, [65, 1, 1, 1, 1, 1], 0), (.iconst 1, [], 0), (.goto 4, [66, 1, 1, 1, 1, 1], 0)]),
  (65, [(.iconst 0, [], 0), (.nop, [66, 1, 1, 1, 1, 1], 0)]),
  (66, [(.istore 5, [], 0), (.iload 5, [], 0), (.ifCond .ne 6, [76, 1, 1, 1, 1, 1], 0), (.bipush (-101), [], 0), (.ireturn, [0], 0)]),
  (76, [(.iload_n 3, [], 0), (.i2l, [], 0), (.lconst 1, [], 0), (.ldc2_w 95, [], 9), (.invokestatic 75, [67, 3, 1, 6], 0), (.ifCond .eq 16, [101], 0), (.iload 4, [], 0), (.i2l, [], 0), (.lconst 0, [], 0), (.ldc2_w 95, [], 9), (.invokestatic 75, [67, 3, 1, 6], 0), (.ifCond .ne 6, [104, 1, 1, 1, 1, 1], 0), (.nop, [101], 0)]),
  (101, [(.bipush (-102), [], 0), (.ireturn, [0], 0)]),
  (104, [(.aload_n 0, [], 0), (.getfield 92, [7, 8, 0], 0), (.bipush 8, [], 0), (.if_icmp .ne 6, [116, 1, 1, 1, 1, 1], 0), (.bipush (-104), [], 0), (.ireturn, [0], 0)]),
  (116, [(.aload_n 0, [], 0), (.getfield 22, [7, 9, 2], 0), (.iconst 4, [], 0), (.aload_n 0, [], 0), (.getfield 92, [7, 8, 0], 0), (.imul, [], 0), (.iload_n 1, [], 0), (.iastore, [], 0), (.aload_n 0, [], 0), (.getfield 22, [7, 9, 2], 0), (.iconst 4, [], 0), (.aload_n 0, [], 0), (.getfield 92, [7, 8, 0], 0), (.imul, [], 0), (.iconst 1, [], 0), (.iadd, [], 0), (.iload_n 2, [], 0), (.iastore, [], 0), (.aload_n 0, [], 0), (.getfield 22, [7, 9, 2], 0), (.iconst 4, [], 0), (.aload_n 0, [], 0), (.getfield 92, [7, 8, 0], 0), (.imul, [], 0), (.iconst 2, [], 0), (.iadd, [], 0), (.iload_n 3, [], 0), (.iastore, [], 0), (.aload_n 0, [], 0), (.getfield 22, [7, 9, 2], 0), (.iconst 4, [], 0), (.aload_n 0, [], 0), (.getfield 92, [7, 8, 0], 0), (.imul, [], 0), (.iconst 3, [], 0), (.iadd, [], 0), (.iload 4, [], 0), (.iastore, [], 0), (.aload_n 0, [], 0), (.dup, [], 0), (.getfield 92, [7, 8, 0], 0), (.iconst 1, [], 0), (.iadd, [], 0), (.putfield 92, [7, 8, 0], 0), (.aload_n 0, [], 0), (.getfield 92, [7, 8, 0], 0), (.iconst 1, [], 0), (.isub, [], 0), (.ireturn, [0], 0)])]
/-- MindReadersModel.isSignal(I)Z -/
def zc_76 : List (Nat × List zE) := [(0, [(.iload_n 1, [], 0), (.i2l, [], 0), (.lconst 0, [], 0), (.aload_n 0, [], 0), (.getfield 92, [7, 8, 0], 0), (.iconst 1, [], 0), (.isub, [], 0), (.i2l, [], 0), (.invokestatic 75, [67, 3, 1, 6], 0), (.ireturn, [1], 0)])]
/-- MindReadersModel.as(II)I -/
def zc_77 : List (Nat × List zE) := [(0, [(.aload_n 0, [], 0), (.iload_n 1, [], 0), (.invokevirtual 97, [76, 2, 1, 2, 7], 0), (.ifCond .ne 6, [11, 1, 1, 1], 0), (.bipush (-101), [], 0), (.ireturn, [0], 0)]),
  (11, [(.iload_n 2, [], 0), (.i2l, [], 0), (.lconst 0, [], 0), (.ldc2_w 90, [], 4), (.invokestatic 75, [67, 3, 1, 6], 0), (.ifCond .ne 6, [26, 1, 1, 1], 0), (.bipush (-102), [], 0), (.ireturn, [0], 0)]),
  (26, [(.aload_n 0, [], 0), (.getfield 22, [7, 9, 2], 0), (.iconst 4, [], 0), (.iload_n 1, [], 0), (.imul, [], 0), (.iaload, [], 0), (.istore_n 3, [], 0), (.iload_n 2, [], 0), (.ifCond .eq 18, [54, 0, 1], 0), (.iload_n 2, [], 0), (.iload_n 3, [], 0), (.if_icmp .eq 13, [54, 0, 1], 0), (.iload_n 2, [], 0), (.iconst 1, [], 0), (.if_icmp .ne 12, [58, 0, 1], 0), (.iload_n 3, [], 0), (.iconst 2, [], 0), (.if_icmp .ne 7, [58, 0, 1], 0), (.nop, [54, 0, 1], 0)]),
  (54, [(.iconst 1, [], 0), (.goto 4, [59, 0, 1], 0)]),
  (58, [(.iconst 0, [], 0), (.nop, [59, 0, 1], 0)]),
  (59, [(.istore 4, [], 0), (.iload 4, [], 0), (.ifCond .eq 7, [70], 0), (.iload_n 1, [], 0), (.goto 4, [71], 0)]),
  (70, [(.iconst (-1), [], 0), (.nop, [71], 0)]),
  (71, [(.ireturn, [0], 0)])]
/-- MindReadersModel.about(II)I -/
def zc_78 : List (Nat × List zE) := [(0, [(.aload_n 0, [], 0), (.iload_n 1, [], 0), (.invokevirtual 97, [76, 2, 1, 2, 7], 0), (.ifCond .ne 6, [11, 1, 1, 1], 0), (.bipush (-101), [], 0), (.ireturn, [0], 0)]),
  (11, [(.iload_n 2, [], 0), (.i2l, [], 0), (.lconst 0, [], 0), (.ldc2_w 100, [], 3), (.invokestatic 75, [67, 3, 1, 6], 0), (.ifCond .eq 16, [36], 0), (.aload_n 0, [], 0), (.getfield 22, [7, 9, 2], 0), (.iconst 4, [], 0), (.iload_n 1, [], 0), (.imul, [], 0), (.iload_n 2, [], 0), (.iadd, [], 0), (.iaload, [], 0), (.goto 5, [38], 0)]),
  (36, [(.bipush (-102), [], 0), (.nop, [38], 0)]),
  (38, [(.ireturn, [0], 0)])]
/-- MindReadersModel.thing(I)I -/
def zc_79 : List (Nat × List zE) := [(0, [(.iload_n 1, [], 0), (.i2l, [], 0), (.lconst 1, [], 0), (.ldc2_w 102, [], 99), (.invokestatic 75, [67, 3, 1, 6], 0), (.ifCond .ne 6, [15, 1, 1], 0), (.bipush (-102), [], 0), (.ireturn, [0], 0)]),
  (15, [(.aload_n 0, [], 0), (.getfield 104, [7, 10, 0], 0), (.bipush 8, [], 0), (.if_icmp .ne 6, [27, 1, 1], 0), (.bipush (-104), [], 0), (.ireturn, [0], 0)]),
  (27, [(.aload_n 0, [], 0), (.getfield 25, [7, 11, 2], 0), (.aload_n 0, [], 0), (.getfield 104, [7, 10, 0], 0), (.iload_n 1, [], 0), (.iastore, [], 0), (.aload_n 0, [], 0), (.dup, [], 0), (.getfield 104, [7, 10, 0], 0), (.iconst 1, [], 0), (.iadd, [], 0), (.putfield 104, [7, 10, 0], 0), (.aload_n 0, [], 0), (.getfield 104, [7, 10, 0], 0), (.iconst 1, [], 0), (.isub, [], 0), (.ireturn, [0], 0)])]
/-- MindReadersModel.isThing(I)Z -/
def zc_80 : List (Nat × List zE) := [(0, [(.iload_n 1, [], 0), (.i2l, [], 0), (.lconst 0, [], 0), (.aload_n 0, [], 0), (.getfield 104, [7, 10, 0], 0), (.iconst 1, [], 0), (.isub, [], 0), (.i2l, [], 0), (.invokestatic 75, [67, 3, 1, 6], 0), (.ireturn, [1], 0)])]
/-- MindReadersModel.weigh(II)I -/
def zc_81 : List (Nat × List zE) := [(0, [(.aload_n 0, [], 0), (.iload_n 1, [], 0), (.invokevirtual 107, [80, 2, 1, 2, 7], 0), (.ifCond .ne 6, [11, 1, 1, 1], 0), (.bipush (-101), [], 0), (.ireturn, [0], 0)]),
  (11, [(.iload_n 2, [], 0), (.i2l, [], 0), (.lconst 1, [], 0), (.ldc2_w 102, [], 99), (.invokestatic 75, [67, 3, 1, 6], 0), (.ifCond .ne 6, [26, 1, 1, 1], 0), (.bipush (-102), [], 0), (.ireturn, [0], 0)]),
  (26, [(.aload_n 0, [], 0), (.getfield 25, [7, 11, 2], 0), (.iload_n 1, [], 0), (.iaload, [], 0), (.istore_n 3, [], 0), (.aload_n 0, [], 0), (.getfield 25, [7, 11, 2], 0), (.iload_n 1, [], 0), (.iload_n 2, [], 0), (.iastore, [], 0), (.iload_n 3, [], 0), (.ireturn, [0], 0)])]
/-- MindReadersModel.kindOf(I)I -/
def zc_82 : List (Nat × List zE) := [(0, [(.aload_n 0, [], 0), (.iload_n 1, [], 0), (.invokevirtual 97, [76, 2, 1, 2, 7], 0), (.ifCond .eq 14, [19], 0), (.aload_n 0, [], 0), (.getfield 22, [7, 9, 2], 0), (.iconst 4, [], 0), (.iload_n 1, [], 0), (.imul, [], 0), (.iaload, [], 0), (.goto 4, [20], 0)]),
  (19, [(.iconst 0, [], 0), (.nop, [20], 0)]),
  (20, [(.ireturn, [0], 0)])]
/-- MindReadersModel.secondsOf(I)I -/
def zc_83 : List (Nat × List zE) := [(0, [(.aload_n 0, [], 0), (.iload_n 1, [], 0), (.invokevirtual 97, [76, 2, 1, 2, 7], 0), (.ifCond .eq 16, [21], 0), (.aload_n 0, [], 0), (.getfield 22, [7, 9, 2], 0), (.iconst 4, [], 0), (.iload_n 1, [], 0), (.imul, [], 0), (.iconst 2, [], 0), (.iadd, [], 0), (.iaload, [], 0), (.goto 4, [22], 0)]),
  (21, [(.iconst 1, [], 0), (.nop, [22], 0)]),
  (22, [(.ireturn, [0], 0)])]
/-- MindReadersModel.oddOf(I)I -/
def zc_84 : List (Nat × List zE) := [(0, [(.aload_n 0, [], 0), (.iload_n 1, [], 0), (.invokevirtual 97, [76, 2, 1, 2, 7], 0), (.ifCond .eq 16, [21], 0), (.aload_n 0, [], 0), (.getfield 22, [7, 9, 2], 0), (.iconst 4, [], 0), (.iload_n 1, [], 0), (.imul, [], 0), (.iconst 3, [], 0), (.iadd, [], 0), (.iaload, [], 0), (.goto 4, [22], 0)]),
  (21, [(.iconst 0, [], 0), (.nop, [22], 0)]),
  (22, [(.ireturn, [0], 0)])]
/-- MindReadersModel.stand(I)V -/
def zc_85 : List (Nat × List zE) := [(0, [(.aload_n 0, [], 0), (.iload_n 1, [], 0), (.invokevirtual 110, [82, 2, 1, 2, 7], 0), (.istore_n 2, [], 0), (.iload_n 2, [], 0), (.iconst 2, [], 0), (.if_icmp .ge 26, [34, 1, 1, 1], 0), (.aload_n 0, [], 0), (.getfield 28, [7, 12, 2], 0), (.aload_n 0, [], 0), (.getfield 114, [7, 13, 0], 0), (.iload_n 1, [], 0), (.iastore, [], 0), (.aload_n 0, [], 0), (.dup, [], 0), (.getfield 114, [7, 13, 0], 0), (.iconst 1, [], 0), (.iadd, [], 0), (.putfield 114, [7, 13, 0], 0), (.goto 83, [114], 0)]),
  (34, [(.iload_n 2, [], 0), (.iconst 2, [], 0), (.if_icmp .ne 56, [92, 1, 0, 1], 0), (.aload_n 0, [], 0), (.getfield 28, [7, 12, 2], 0), (.aload_n 0, [], 0), (.getfield 114, [7, 13, 0], 0), (.aload_n 0, [], 0), (.getfield 22, [7, 9, 2], 0), (.iconst 4, [], 0), (.iload_n 1, [], 0), (.imul, [], 0), (.iconst 1, [], 0), (.iadd, [], 0), (.iaload, [], 0), (.iastore, [], 0), (.aload_n 0, [], 0), (.getfield 28, [7, 12, 2], 0), (.aload_n 0, [], 0), (.getfield 114, [7, 13, 0], 0), (.iconst 1, [], 0), (.iadd, [], 0), (.aload_n 0, [], 0), (.getfield 22, [7, 9, 2], 0), (.iconst 4, [], 0), (.iload_n 1, [], 0), (.imul, [], 0), (.iconst 1, [], 0), (.iadd, [], 0), (.iaload, [], 0), (.iastore, [], 0), (.aload_n 0, [], 0), (.dup, [], 0), (.getfield 114, [7, 13, 0], 0), (.iconst 2, [], 0), (.iadd, [], 0), (.putfield 114, [7, 13, 0], 0), (.goto 25, [114], 0)]),
  (92, [(.iload_n 2, [], 0), (.iconst 4, [], 0), (.if_icmp .ne 20, [114], 0), (.aload_n 0, [], 0), (.getfield 114, [7, 13, 0], 0), (.ifCond .le 13, [114], 0), (.aload_n 0, [], 0), (.dup, [], 0), (.getfield 114, [7, 13, 0], 0), (.iconst 1, [], 0), (.isub, [], 0), (.putfield 114, [7, 13, 0], 0), (.nop, [114], 0)]),
  (114, [(.return_, [], 0)])]
/-- MindReadersModel.layPlain(III)V -/
def zc_86 : List (Nat × List zE) := [(0, [(.bipush 48, [], 0), (.iload_n 1, [], 0), (.imul, [], 0), (.bipush 6, [], 0), (.iload_n 2, [], 0), (.imul, [], 0), (.iadd, [], 0), (.istore 4, [], 0), (.aload_n 0, [], 0), (.iconst 0, [], 0), (.putfield 114, [7, 13, 0], 0), (.iconst 1, [], 0), (.istore 5, [], 0), (.nop, [19, 1, 0, 0, 1, 1, 1], 0)]),
  (19, [(.iload 5, [], 0), (.aload_n 0, [], 0), (.getfield 19, [7, 7, 2], 0), (.iload 4, [], 0), (.iaload, [], 0), (.if_icmp .gt 40, [68], 0), (.iload_n 3, [], 0), (.aload_n 0, [], 0), (.getfield 19, [7, 7, 2], 0), (.iload 4, [], 0), (.iload 5, [], 0), (.iadd, [], 0), (.iaload, [], 0), (.ishr, [], 0), (.iconst 1, [], 0), (.iand, [], 0), (.ifCond .ne 17, [62, 1, 0, 0, 1, 1, 1], 0), (.aload_n 0, [], 0), (.aload_n 0, [], 0), (.getfield 19, [7, 7, 2], 0), (.iload 4, [], 0), (.iload 5, [], 0), (.iadd, [], 0), (.iaload, [], 0), (.invokevirtual 117, [85, 2, 0, 3, 7], 0), (.nop, [62, 1, 0, 0, 1, 1, 1], 0)]),
  (62, [(.iinc 5 1, [], 0), (.goto (-46), [19, 1, 0, 0, 1, 1, 1], 0)]),
  (68, [(.return_, [], 0)])]
/-- MindReadersModel.layAll(II)V -/
def zc_87 : List (Nat × List zE) := [(0, [(.iconst 0, [], 0), (.istore_n 3, [], 0), (.nop, [2, 1, 1, 1, 1], 0)]),
  (2, [(.iload_n 3, [], 0), (.aload_n 0, [], 0), (.getfield 16, [7, 6, 2], 0), (.iload_n 1, [], 0), (.iaload, [], 0), (.if_icmp .ge 68, [77], 0), (.aload_n 0, [], 0), (.iload_n 1, [], 0), (.iload_n 3, [], 0), (.iload_n 2, [], 0), (.invokevirtual 121, [86, 4, 0, 6, 7], 0), (.aload_n 0, [], 0), (.getfield 31, [7, 14, 2], 0), (.bipush 11, [], 0), (.iload_n 3, [], 0), (.imul, [], 0), (.aload_n 0, [], 0), (.getfield 114, [7, 13, 0], 0), (.iastore, [], 0), (.iconst 0, [], 0), (.istore 4, [], 0), (.nop, [35, 1, 1, 1, 1, 1], 0)]),
  (35, [(.iload 4, [], 0), (.aload_n 0, [], 0), (.getfield 114, [7, 13, 0], 0), (.if_icmp .ge 30, [71, 1, 1, 1, 1], 0), (.aload_n 0, [], 0), (.getfield 31, [7, 14, 2], 0), (.bipush 11, [], 0), (.iload_n 3, [], 0), (.imul, [], 0), (.iconst 1, [], 0), (.iadd, [], 0), (.iload 4, [], 0), (.iadd, [], 0), (.aload_n 0, [], 0), (.getfield 28, [7, 12, 2], 0), (.iload 4, [], 0), (.iaload, [], 0), (.iastore, [], 0), (.iinc 4 1, [], 0), (.goto (-33), [35, 1, 1, 1, 1, 1], 0)]),
  (71, [(.iinc 3 1, [], 0), (.goto (-72), [2, 1, 1, 1, 1], 0)]),
  (77, [(.return_, [], 0)])]
/-- MindReadersModel.longOf(II)I -/
def zc_88 : List (Nat × List zE) := [(0, [(.bipush 48, [], 0), (.iload_n 1, [], 0), (.imul, [], 0), (.bipush 6, [], 0), (.iload_n 2, [], 0), (.imul, [], 0), (.iadd, [], 0), (.istore_n 3, [], 0), (.iconst 0, [], 0), (.istore 4, [], 0), (.iconst 1, [], 0), (.istore 5, [], 0), (.nop, [16, 1, 0, 0, 1, 1, 1], 0)]),
  (16, [(.iload 5, [], 0), (.aload_n 0, [], 0), (.getfield 19, [7, 7, 2], 0), (.iload_n 3, [], 0), (.iaload, [], 0), (.if_icmp .gt 27, [51, 0, 0, 0, 0, 1], 0), (.iload 4, [], 0), (.aload_n 0, [], 0), (.aload_n 0, [], 0), (.getfield 19, [7, 7, 2], 0), (.iload_n 3, [], 0), (.iload 5, [], 0), (.iadd, [], 0), (.iaload, [], 0), (.invokevirtual 125, [83, 2, 1, 2, 7], 0), (.iadd, [], 0), (.istore 4, [], 0), (.iinc 5 1, [], 0), (.goto (-32), [16, 1, 0, 0, 1, 1, 1], 0)]),
  (51, [(.iload 4, [], 0), (.ireturn, [0], 0)])]
/-- MindReadersModel.speechOf(III)I -/
def zc_89 : List (Nat × List zE) := [(0, [(.bipush 48, [], 0), (.iload_n 1, [], 0), (.imul, [], 0), (.bipush 6, [], 0), (.iload_n 2, [], 0), (.imul, [], 0), (.iadd, [], 0), (.istore 4, [], 0), (.iload_n 3, [], 0), (.i2l, [], 0), (.lconst 0, [], 0), (.ldc2_w 128, [], 5), (.invokestatic 75, [67, 3, 1, 6], 0), (.ifCond .eq 28, [48, 1, 1, 1, 1], 0), (.iload_n 3, [], 0), (.aload_n 0, [], 0), (.getfield 19, [7, 7, 2], 0), (.iload 4, [], 0), (.iaload, [], 0), (.if_icmp .gt 15, [46], 0), (.aload_n 0, [], 0), (.getfield 19, [7, 7, 2], 0), (.iload 4, [], 0), (.iload_n 3, [], 0), (.iadd, [], 0), (.iaload, [], 0), (.goto 4, [47], 0)]),
  (46, [(.iconst (-1), [], 0), (.nop, [47], 0)]),
  (47, [(.ireturn, [0], 0)]),
  (48, [(.aload_n 0, [], 0), (.iload_n 1, [], 0), (.iload_n 2, [], 0), (.iconst 0, [], 0), (.invokevirtual 121, [86, 4, 0, 6, 7], 0), (.iload_n 3, [], 0), (.i2l, [], 0), (.ldc2_w 130, [], 11), (.ldc2_w 132, [], 20), (.invokestatic 75, [67, 3, 1, 6], 0), (.ifCond .eq 28, [94, 1, 1, 1, 1], 0), (.iload_n 3, [], 0), (.bipush 11, [], 0), (.isub, [], 0), (.aload_n 0, [], 0), (.getfield 114, [7, 13, 0], 0), (.if_icmp .ge 15, [92], 0), (.aload_n 0, [], 0), (.getfield 28, [7, 12, 2], 0), (.iload_n 3, [], 0), (.bipush 11, [], 0), (.isub, [], 0), (.iaload, [], 0), (.goto 4, [93], 0)]),
  (92, [(.iconst (-1), [], 0), (.nop, [93], 0)]),
  (93, [(.ireturn, [0], 0)]),
  (94, [(.iload_n 3, [], 0), (.bipush 10, [], 0), (.if_icmp .ne 10, [107, 1, 1, 1, 1], 0), (.aload_n 0, [], 0), (.getfield 114, [7, 13, 0], 0), (.goto 20, [124], 0)]),
  (107, [(.iload_n 3, [], 0), (.bipush 30, [], 0), (.if_icmp .ne 12, [122], 0), (.aload_n 0, [], 0), (.iload_n 1, [], 0), (.iload_n 2, [], 0), (.invokevirtual 134, [88, 3, 1, 6, 7], 0), (.goto 5, [124], 0)]),
  (122, [(.bipush (-102), [], 0), (.nop, [124], 0)]),
  (124, [(.ireturn, [0], 0)])]
/-- MindReadersModel.speech(III)I -/
def zc_90 : List (Nat × List zE) := [(0, [(.aload_n 0, [], 0), (.iload_n 1, [], 0), (.invokevirtual 138, [74, 2, 1, 2, 7], 0), (.ifCond .eq 21, [26], 0), (.iload_n 2, [], 0), (.i2l, [], 0), (.lconst 0, [], 0), (.aload_n 0, [], 0), (.getfield 16, [7, 6, 2], 0), (.iload_n 1, [], 0), (.iaload, [], 0), (.iconst 1, [], 0), (.isub, [], 0), (.i2l, [], 0), (.invokestatic 75, [67, 3, 1, 6], 0), (.ifCond .ne 6, [29, 1, 1, 1, 1], 0), (.nop, [26], 0)]),
  (26, [(.bipush (-101), [], 0), (.ireturn, [0], 0)]),
  (29, [(.aload_n 0, [], 0), (.iload_n 1, [], 0), (.iload_n 2, [], 0), (.iload_n 3, [], 0), (.invokevirtual 141, [89, 4, 1, 5, 7], 0), (.ireturn, [0], 0)])]
/-- MindReadersModel.isStart(III)Z -/
def zc_91 : List (Nat × List zE) := [(0, [(.aload_n 0, [], 0), (.getfield 31, [7, 14, 2], 0), (.bipush 11, [], 0), (.iload_n 1, [], 0), (.imul, [], 0), (.iaload, [], 0), (.iload_n 3, [], 0), (.if_icmp .lt 20, [30, 1, 1, 1, 1], 0), (.aload_n 0, [], 0), (.getfield 31, [7, 14, 2], 0), (.bipush 11, [], 0), (.iload_n 2, [], 0), (.imul, [], 0), (.iaload, [], 0), (.iload_n 3, [], 0), (.if_icmp .lt 7, [30, 1, 1, 1, 1], 0), (.iconst 1, [], 0), (.goto 4, [31, 1, 1, 1, 1], 0)]),
  (30, [(.iconst 0, [], 0), (.nop, [31, 1, 1, 1, 1], 0)]),
  (31, [(.istore 4, [], 0), (.iconst 0, [], 0), (.istore 5, [], 0), (.nop, [36, 1, 1, 1, 1, 1, 1], 0)]),
  (36, [(.iload 5, [], 0), (.iload_n 3, [], 0), (.if_icmp .ge 52, [91, 0, 0, 0, 0, 1], 0), (.iload 4, [], 0), (.ifCond .eq 47, [91, 0, 0, 0, 0, 1], 0), (.aload_n 0, [], 0), (.getfield 31, [7, 14, 2], 0), (.bipush 11, [], 0), (.iload_n 1, [], 0), (.imul, [], 0), (.iconst 1, [], 0), (.iadd, [], 0), (.iload 5, [], 0), (.iadd, [], 0), (.iaload, [], 0), (.aload_n 0, [], 0), (.getfield 31, [7, 14, 2], 0), (.bipush 11, [], 0), (.iload_n 2, [], 0), (.imul, [], 0), (.iconst 1, [], 0), (.iadd, [], 0), (.iload 5, [], 0), (.iadd, [], 0), (.iaload, [], 0), (.if_icmp .ne 7, [82, 1, 1, 1, 1, 0, 1], 0), (.iconst 1, [], 0), (.goto 4, [83, 1, 1, 1, 1, 0, 1], 0)]),
  (82, [(.iconst 0, [], 0), (.nop, [83, 1, 1, 1, 1, 0, 1], 0)]),
  (83, [(.istore 4, [], 0), (.iinc 5 1, [], 0), (.goto (-52), [36, 1, 1, 1, 1, 1, 1], 0)]),
  (91, [(.iload 4, [], 0), (.ireturn, [1], 0)])]
/-- MindReadersModel.isAlike(II)Z -/
def zc_92 : List (Nat × List zE) := [(0, [(.aload_n 0, [], 0), (.getfield 31, [7, 14, 2], 0), (.bipush 11, [], 0), (.iload_n 1, [], 0), (.imul, [], 0), (.iaload, [], 0), (.aload_n 0, [], 0), (.getfield 31, [7, 14, 2], 0), (.bipush 11, [], 0), (.iload_n 2, [], 0), (.imul, [], 0), (.iaload, [], 0), (.if_icmp .ne 25, [43], 0), (.aload_n 0, [], 0), (.iload_n 1, [], 0), (.iload_n 2, [], 0), (.aload_n 0, [], 0), (.getfield 31, [7, 14, 2], 0), (.bipush 11, [], 0), (.iload_n 1, [], 0), (.imul, [], 0), (.iaload, [], 0), (.invokevirtual 145, [91, 4, 1, 6, 7], 0), (.ifCond .eq 7, [43], 0), (.iconst 1, [], 0), (.goto 4, [44], 0)]),
  (43, [(.iconst 0, [], 0), (.nop, [44], 0)]),
  (44, [(.ireturn, [1], 0)])]
/-- MindReadersModel.layPage()Z -/
def zc_93 : List (Nat × List zE) := [(0, [(.iconst 1, [], 0), (.istore_n 1, [], 0), (.aload_n 0, [], 0), (.iconst 0, [], 0), (.putfield 114, [7, 13, 0], 0), (.iconst 0, [], 0), (.istore_n 2, [], 0), (.nop, [9, 1, 1, 1], 0)]),
  (9, [(.iload_n 2, [], 0), (.aload_n 0, [], 0), (.getfield 62, [7, 1, 0], 0), (.if_icmp .ge 47, [61, 0, 1], 0), (.iload_n 1, [], 0), (.ifCond .eq 43, [61, 0, 1], 0), (.aload_n 0, [], 0), (.getfield 7, [7, 0, 2], 0), (.iload_n 2, [], 0), (.iaload, [], 0), (.i2l, [], 0), (.ldc2_w 71, [], 97), (.ldc2_w 73, [], 104), (.invokestatic 75, [67, 3, 1, 6], 0), (.istore_n 1, [], 0), (.iload_n 1, [], 0), (.ifCond .eq 16, [55, 1, 1, 1], 0), (.aload_n 0, [], 0), (.aload_n 0, [], 0), (.getfield 7, [7, 0, 2], 0), (.iload_n 2, [], 0), (.iaload, [], 0), (.bipush 97, [], 0), (.isub, [], 0), (.invokevirtual 117, [85, 2, 0, 3, 7], 0), (.nop, [55, 1, 1, 1], 0)]),
  (55, [(.iinc 2 1, [], 0), (.goto (-49), [9, 1, 1, 1], 0)]),
  (61, [(.iload_n 1, [], 0), (.ireturn, [1], 0)])]
/-- MindReadersModel.differs(I)I -/
def zc_94 : List (Nat × List zE) := [(0, [(.aload_n 0, [], 0), (.getfield 31, [7, 14, 2], 0), (.bipush 11, [], 0), (.iload_n 1, [], 0), (.imul, [], 0), (.iaload, [], 0), (.aload_n 0, [], 0), (.getfield 114, [7, 13, 0], 0), (.if_icmp .eq 6, [19, 1, 1], 0), (.ldc 149, [], 1000000), (.ireturn, [0], 0)]),
  (19, [(.iconst 0, [], 0), (.istore_n 2, [], 0), (.iconst 0, [], 0), (.istore_n 3, [], 0), (.nop, [23, 1, 1, 1, 1], 0)]),
  (23, [(.iload_n 3, [], 0), (.aload_n 0, [], 0), (.getfield 114, [7, 13, 0], 0), (.if_icmp .ge 39, [67, 0, 0, 1], 0), (.iload_n 2, [], 0), (.aload_n 0, [], 0), (.getfield 31, [7, 14, 2], 0), (.bipush 11, [], 0), (.iload_n 1, [], 0), (.imul, [], 0), (.iconst 1, [], 0), (.iadd, [], 0), (.iload_n 3, [], 0), (.iadd, [], 0), (.iaload, [], 0), (.aload_n 0, [], 0), (.getfield 28, [7, 12, 2], 0), (.iload_n 3, [], 0), (.iaload, [], 0), (.if_icmp .ne 7, [58, 1, 1, 0, 1], 0), (.iconst 0, [], 0), (.goto 4, [59, 1, 1, 0, 1], 0)]),
  (58, [(.iconst 1, [], 0), (.nop, [59, 1, 1, 0, 1], 0)]),
  (59, [(.iadd, [], 0), (.istore_n 2, [], 0), (.iinc 3 1, [], 0), (.goto (-41), [23, 1, 1, 1, 1], 0)]),
  (67, [(.iload_n 2, [], 0), (.ireturn, [0], 0)])]
/-- MindReadersModel.namedNow(I)I -/
def zc_95 : List (Nat × List zE) := [(0, [(.iconst (-1), [], 0), (.istore_n 2, [], 0), (.ldc 149, [], 1000000), (.istore_n 3, [], 0), (.iconst 0, [], 0), (.istore 4, [], 0), (.nop, [8, 1, 1, 1, 1, 1], 0)]),
  (8, [(.iload 4, [], 0), (.aload_n 0, [], 0), (.getfield 16, [7, 6, 2], 0), (.iload_n 1, [], 0), (.iaload, [], 0), (.if_icmp .ge 43, [59, 0, 0, 1], 0), (.aload_n 0, [], 0), (.iload 4, [], 0), (.invokevirtual 150, [94, 2, 1, 4, 7], 0), (.istore 5, [], 0), (.iload 5, [], 0), (.iload_n 3, [], 0), (.if_icmp .ge 8, [38, 1, 1, 1, 1, 1, 1], 0), (.iload 4, [], 0), (.goto 4, [39, 1, 1, 0, 1, 1, 1], 0)]),
  (38, [(.iload_n 2, [], 0), (.nop, [39, 1, 1, 0, 1, 1, 1], 0)]),
  (39, [(.istore_n 2, [], 0), (.iload 5, [], 0), (.iload_n 3, [], 0), (.if_icmp .ge 8, [51, 1, 1, 1, 1, 1], 0), (.iload 5, [], 0), (.goto 4, [52, 1, 1, 1, 0, 1], 0)]),
  (51, [(.iload_n 3, [], 0), (.nop, [52, 1, 1, 1, 0, 1], 0)]),
  (52, [(.istore_n 3, [], 0), (.iinc 4 1, [], 0), (.goto (-48), [8, 1, 1, 1, 1, 1], 0)]),
  (59, [(.iload_n 2, [], 0), (.ireturn, [0], 0)])]
/-- MindReadersModel.means(I)I -/
def zc_96 : List (Nat × List zE) := [(0, [(.aload_n 0, [], 0), (.iload_n 1, [], 0), (.invokevirtual 138, [74, 2, 1, 2, 7], 0), (.ifCond .ne 6, [11, 1, 1], 0), (.bipush (-101), [], 0), (.ireturn, [0], 0)]),
  (11, [(.aload_n 0, [], 0), (.iload_n 1, [], 0), (.iconst 0, [], 0), (.invokevirtual 153, [87, 3, 0, 5, 7], 0), (.aload_n 0, [], 0), (.invokevirtual 157, [93, 1, 1, 3, 7], 0), (.ifCond .ne 6, [27, 1, 1], 0), (.bipush (-103), [], 0), (.ireturn, [0], 0)]),
  (27, [(.aload_n 0, [], 0), (.iload_n 1, [], 0), (.invokevirtual 161, [95, 2, 1, 6, 7], 0), (.istore_n 2, [], 0), (.iload_n 2, [], 0), (.iconst (-1), [], 0), (.if_icmp .eq 15, [50], 0), (.aload_n 0, [], 0), (.iload_n 2, [], 0), (.invokevirtual 150, [94, 2, 1, 4, 7], 0), (.ifCond .ne 7, [50], 0), (.iload_n 2, [], 0), (.goto 4, [51], 0)]),
  (50, [(.iconst (-1), [], 0), (.nop, [51], 0)]),
  (51, [(.ireturn, [0], 0)])]
/-- MindReadersModel.alikeOf(I)I -/
def zc_97 : List (Nat × List zE) := [(0, [(.aload_n 0, [], 0), (.iload_n 1, [], 0), (.iconst 0, [], 0), (.invokevirtual 153, [87, 3, 0, 5, 7], 0), (.iconst 0, [], 0), (.istore_n 2, [], 0), (.nop, [8, 1, 1, 1], 0)]),
  (8, [(.iload_n 2, [], 0), (.aload_n 0, [], 0), (.getfield 16, [7, 6, 2], 0), (.iload_n 1, [], 0), (.iaload, [], 0), (.if_icmp .ge 45, [60], 0), (.iload_n 2, [], 0), (.iconst 1, [], 0), (.iadd, [], 0), (.istore_n 3, [], 0), (.nop, [22, 1, 1, 1, 1], 0)]),
  (22, [(.iload_n 3, [], 0), (.aload_n 0, [], 0), (.getfield 16, [7, 6, 2], 0), (.iload_n 1, [], 0), (.iaload, [], 0), (.if_icmp .ge 25, [54, 1, 1, 1], 0), (.aload_n 0, [], 0), (.iload_n 2, [], 0), (.iload_n 3, [], 0), (.invokevirtual 164, [92, 3, 1, 3, 7], 0), (.ifCond .eq 10, [48, 1, 1, 1, 1], 0), (.bipush 8, [], 0), (.iload_n 2, [], 0), (.imul, [], 0), (.iload_n 3, [], 0), (.iadd, [], 0), (.ireturn, [0], 0)]),
  (48, [(.iinc 3 1, [], 0), (.goto (-29), [22, 1, 1, 1, 1], 0)]),
  (54, [(.iinc 2 1, [], 0), (.goto (-49), [8, 1, 1, 1], 0)]),
  (60, [(.iconst (-1), [], 0), (.ireturn, [0], 0)])]
/-- MindReadersModel.clear(II)I -/
def zc_98 : List (Nat × List zE) := [(0, [(.aload_n 0, [], 0), (.iload_n 1, [], 0), (.invokevirtual 138, [74, 2, 1, 2, 7], 0), (.ifCond .ne 6, [11, 1, 1, 1], 0), (.bipush (-101), [], 0), (.ireturn, [0], 0)]),
  (11, [(.iload_n 2, [], 0), (.i2l, [], 0), (.lconst 0, [], 0), (.ldc2_w 168, [], 2), (.invokestatic 75, [67, 3, 1, 6], 0), (.ifCond .ne 6, [26, 1, 1, 1], 0), (.bipush (-102), [], 0), (.ireturn, [0], 0)]),
  (26, [(.aload_n 0, [], 0), (.iload_n 1, [], 0), (.invokevirtual 170, [97, 2, 1, 4, 7], 0), (.istore_n 3, [], 0), (.iload_n 2, [], 0), (.ifCond .ne 14, [47, 0, 0, 1, 1], 0), (.iload_n 3, [], 0), (.iconst (-1), [], 0), (.if_icmp .ne 7, [45], 0), (.iconst 1, [], 0), (.goto 4, [46], 0)]),
  (45, [(.iconst 0, [], 0), (.nop, [46], 0)]),
  (46, [(.ireturn, [0], 0)]),
  (47, [(.iload_n 3, [], 0), (.iconst (-1), [], 0), (.if_icmp .ne 7, [56, 0, 0, 1, 1], 0), (.iconst (-1), [], 0), (.goto 19, [72], 0)]),
  (56, [(.iload_n 2, [], 0), (.iconst 1, [], 0), (.if_icmp .ne 10, [68, 0, 0, 0, 1], 0), (.iload_n 3, [], 0), (.bipush 8, [], 0), (.idiv, [], 0), (.goto 7, [72], 0)]),
  (68, [(.iload_n 3, [], 0), (.bipush 8, [], 0), (.irem, [], 0), (.nop, [72], 0)]),
  (72, [(.ireturn, [0], 0)])]
/-- MindReadersModel.starts(II)I -/
def zc_99 : List (Nat × List zE) := [(0, [(.aload_n 0, [], 0), (.iload_n 1, [], 0), (.invokevirtual 138, [74, 2, 1, 2, 7], 0), (.ifCond .ne 6, [11, 1, 1, 1], 0), (.bipush (-101), [], 0), (.ireturn, [0], 0)]),
  (11, [(.iload_n 2, [], 0), (.i2l, [], 0), (.lconst 0, [], 0), (.lconst 1, [], 0), (.invokestatic 75, [67, 3, 1, 6], 0), (.ifCond .ne 6, [24, 1, 1, 1], 0), (.bipush (-102), [], 0), (.ireturn, [0], 0)]),
  (24, [(.aload_n 0, [], 0), (.iload_n 1, [], 0), (.iconst 0, [], 0), (.invokevirtual 153, [87, 3, 0, 5, 7], 0), (.iconst 0, [], 0), (.istore_n 3, [], 0), (.nop, [32, 1, 1, 1, 1], 0)]),
  (32, [(.iload_n 3, [], 0), (.bipush 64, [], 0), (.if_icmp .ge 118, [153], 0), (.iload_n 3, [], 0), (.bipush 8, [], 0), (.idiv, [], 0), (.istore 4, [], 0), (.iload_n 3, [], 0), (.bipush 8, [], 0), (.irem, [], 0), (.istore 5, [], 0), (.iload 4, [], 0), (.iload 5, [], 0), (.if_icmp .eq 29, [83, 1, 1, 1, 1, 1, 1], 0), (.iload 4, [], 0), (.aload_n 0, [], 0), (.getfield 16, [7, 6, 2], 0), (.iload_n 1, [], 0), (.iaload, [], 0), (.if_icmp .ge 18, [83, 1, 1, 1, 1, 1, 1], 0), (.iload 5, [], 0), (.aload_n 0, [], 0), (.getfield 16, [7, 6, 2], 0), (.iload_n 1, [], 0), (.iaload, [], 0), (.if_icmp .ge 7, [83, 1, 1, 1, 1, 1, 1], 0), (.iconst 1, [], 0), (.goto 4, [84, 1, 1, 1, 1, 1, 1], 0)]),
  (83, [(.iconst 0, [], 0), (.nop, [84, 1, 1, 1, 1, 1, 1], 0)]),
  (84, [(.istore 6, [], 0), (.iload 6, [], 0), (.ifCond .eq 59, [147, 1, 1, 1, 1], 0), (.aload_n 0, [], 0), (.getfield 31, [7, 14, 2], 0), (.bipush 11, [], 0), (.iload 4, [], 0), (.imul, [], 0), (.iaload, [], 0), (.aload_n 0, [], 0), (.getfield 31, [7, 14, 2], 0), (.bipush 11, [], 0), (.iload 5, [], 0), (.imul, [], 0), (.iaload, [], 0), (.if_icmp .ge 36, [147, 1, 1, 1, 1], 0), (.aload_n 0, [], 0), (.iload 4, [], 0), (.iload 5, [], 0), (.aload_n 0, [], 0), (.getfield 31, [7, 14, 2], 0), (.bipush 11, [], 0), (.iload 4, [], 0), (.imul, [], 0), (.iaload, [], 0), (.invokevirtual 145, [91, 4, 1, 6, 7], 0), (.ifCond .eq 15, [147, 1, 1, 1, 1], 0), (.iload_n 2, [], 0), (.ifCond .ne 8, [144, 0, 0, 0, 0, 0, 1], 0), (.iload 4, [], 0), (.goto 5, [146], 0)]),
  (144, [(.iload 5, [], 0), (.nop, [146], 0)]),
  (146, [(.ireturn, [0], 0)]),
  (147, [(.iinc 3 1, [], 0), (.goto (-118), [32, 1, 1, 1, 1], 0)]),
  (153, [(.iconst (-1), [], 0), (.ireturn, [0], 0)])]
/-- MindReadersModel.goesOn(III)Z -/
def zc_100 : List (Nat × List zE) := [(0, [(.aload_n 0, [], 0), (.getfield 31, [7, 14, 2], 0), (.bipush 11, [], 0), (.iload_n 1, [], 0), (.imul, [], 0), (.iaload, [], 0), (.iload_n 2, [], 0), (.isub, [], 0), (.istore 4, [], 0), (.iload 4, [], 0), (.aload_n 0, [], 0), (.getfield 31, [7, 14, 2], 0), (.bipush 11, [], 0), (.iload_n 3, [], 0), (.imul, [], 0), (.iaload, [], 0), (.if_icmp .ge 8, [32, 1, 1, 1, 1], 0), (.iload 4, [], 0), (.goto 12, [41, 1, 1, 1, 1], 0)]),
  (32, [(.aload_n 0, [], 0), (.getfield 31, [7, 14, 2], 0), (.bipush 11, [], 0), (.iload_n 3, [], 0), (.imul, [], 0), (.iaload, [], 0), (.nop, [41, 1, 1, 1, 1], 0)]),
  (41, [(.istore 5, [], 0), (.iconst 1, [], 0), (.istore 6, [], 0), (.iconst 0, [], 0), (.istore 7, [], 0), (.nop, [49, 1, 1, 1, 1, 0, 1, 1, 1], 0)]),
  (49, [(.iload 7, [], 0), (.iload 5, [], 0), (.if_icmp .ge 54, [107, 0, 0, 0, 0, 0, 0, 1], 0), (.iload 6, [], 0), (.ifCond .eq 49, [107, 0, 0, 0, 0, 0, 0, 1], 0), (.aload_n 0, [], 0), (.getfield 31, [7, 14, 2], 0), (.bipush 11, [], 0), (.iload_n 1, [], 0), (.imul, [], 0), (.iconst 1, [], 0), (.iadd, [], 0), (.iload_n 2, [], 0), (.iadd, [], 0), (.iload 7, [], 0), (.iadd, [], 0), (.iaload, [], 0), (.aload_n 0, [], 0), (.getfield 31, [7, 14, 2], 0), (.bipush 11, [], 0), (.iload_n 3, [], 0), (.imul, [], 0), (.iconst 1, [], 0), (.iadd, [], 0), (.iload 7, [], 0), (.iadd, [], 0), (.iaload, [], 0), (.if_icmp .ne 7, [98, 1, 1, 1, 1, 0, 1, 0, 1], 0), (.iconst 1, [], 0), (.goto 4, [99, 1, 1, 1, 1, 0, 1, 0, 1], 0)]),
  (98, [(.iconst 0, [], 0), (.nop, [99, 1, 1, 1, 1, 0, 1, 0, 1], 0)]),
  (99, [(.istore 6, [], 0), (.iinc 7 1, [], 0), (.goto (-55), [49, 1, 1, 1, 1, 0, 1, 1, 1], 0)]),
  (107, [(.iload 6, [], 0), (.ireturn, [1], 0)])]
/-- MindReadersModel.reach(III)Z -/
def zc_101 : List (Nat × List zE) := [(0, [(.iload_n 2, [], 0), (.aload_n 0, [], 0), (.getfield 31, [7, 14, 2], 0), (.bipush 11, [], 0), (.iload_n 1, [], 0), (.imul, [], 0), (.iaload, [], 0), (.if_icmp .ne 25, [35, 1, 1, 1, 1], 0), (.aload_n 0, [], 0), (.iload_n 3, [], 0), (.aload_n 0, [], 0), (.getfield 173, [7, 16, 0], 0), (.if_icmp .ge 7, [26, 1], 0), (.iload_n 3, [], 0), (.goto 7, [30], 0)]),
  (26, [(.aload_n 0, [], 0), (.getfield 173, [7, 16, 0], 0), (.nop, [30], 0)]),
  (30, [(.putfield 173, [7, 16, 0], 0), (.iconst 0, [], 0), (.ireturn, [1], 0)]),
  (35, [(.iload_n 3, [], 0), (.aload_n 0, [], 0), (.getfield 34, [7, 15, 2], 0), (.bipush 11, [], 0), (.iload_n 1, [], 0), (.imul, [], 0), (.iload_n 2, [], 0), (.iadd, [], 0), (.iaload, [], 0), (.if_icmp .ge 7, [54, 1, 1, 1, 1], 0), (.iconst 1, [], 0), (.goto 4, [55, 1, 1, 1, 1], 0)]),
  (54, [(.iconst 0, [], 0), (.nop, [55, 1, 1, 1, 1], 0)]),
  (55, [(.istore 4, [], 0), (.aload_n 0, [], 0), (.getfield 34, [7, 15, 2], 0), (.bipush 11, [], 0), (.iload_n 1, [], 0), (.imul, [], 0), (.iload_n 2, [], 0), (.iadd, [], 0), (.iload 4, [], 0), (.ifCond .eq 7, [76, 1, 1, 1, 0, 1], 0), (.iload_n 3, [], 0), (.goto 14, [87, 0, 0, 0, 0, 1], 0)]),
  (76, [(.aload_n 0, [], 0), (.getfield 34, [7, 15, 2], 0), (.bipush 11, [], 0), (.iload_n 1, [], 0), (.imul, [], 0), (.iload_n 2, [], 0), (.iadd, [], 0), (.iaload, [], 0), (.nop, [87, 0, 0, 0, 0, 1], 0)]),
  (87, [(.iastore, [], 0), (.iload 4, [], 0), (.ireturn, [1], 0)])]
/-- MindReadersModel.reachBy(IIII)Z -/
def zc_102 : List (Nat × List zE) := [(0, [(.aload_n 0, [], 0), (.getfield 31, [7, 14, 2], 0), (.bipush 11, [], 0), (.iload_n 1, [], 0), (.imul, [], 0), (.iaload, [], 0), (.iload_n 2, [], 0), (.isub, [], 0), (.istore 5, [], 0), (.aload_n 0, [], 0), (.getfield 31, [7, 14, 2], 0), (.bipush 11, [], 0), (.iload_n 3, [], 0), (.imul, [], 0), (.iaload, [], 0), (.istore 6, [], 0), (.iload 6, [], 0), (.iload 5, [], 0), (.if_icmp .gt 17, [45, 1, 0, 0, 1, 1, 1, 1], 0), (.aload_n 0, [], 0), (.iload_n 1, [], 0), (.iload_n 2, [], 0), (.iload 6, [], 0), (.iadd, [], 0), (.iload 4, [], 0), (.invokevirtual 176, [101, 4, 1, 5, 7], 0), (.goto 18, [60], 0)]),
  (45, [(.aload_n 0, [], 0), (.iload_n 3, [], 0), (.iload 5, [], 0), (.iload 4, [], 0), (.iload 6, [], 0), (.iadd, [], 0), (.iload 5, [], 0), (.isub, [], 0), (.invokevirtual 176, [101, 4, 1, 5, 7], 0), (.nop, [60], 0)]),
  (60, [(.ireturn, [1], 0)])]
/-- MindReadersModel.twiceOf(I)I -/
def zc_103 : List (Nat × List zE) := [(0, [(.aload_n 0, [], 0), (.iload_n 1, [], 0), (.iconst 0, [], 0), (.invokevirtual 153, [87, 3, 0, 5, 7], 0), (.aload_n 0, [], 0), (.getfield 16, [7, 6, 2], 0), (.iload_n 1, [], 0), (.iaload, [], 0), (.istore_n 2, [], 0), (.aload_n 0, [], 0), (.ldc 149, [], 1000000), (.putfield 173, [7, 16, 0], 0), (.iconst 0, [], 0), (.istore_n 3, [], 0), (.nop, [21, 1, 0, 1, 1], 0)]),
  (21, [(.iload_n 3, [], 0), (.bipush 88, [], 0), (.if_icmp .ge 17, [41, 1, 0, 1], 0), (.aload_n 0, [], 0), (.getfield 34, [7, 15, 2], 0), (.iload_n 3, [], 0), (.ldc 149, [], 1000000), (.iastore, [], 0), (.iinc 3 1, [], 0), (.goto (-17), [21, 1, 0, 1, 1], 0)]),
  (41, [(.iconst 0, [], 0), (.istore_n 3, [], 0), (.nop, [43, 1, 0, 1, 1], 0)]),
  (43, [(.iload_n 3, [], 0), (.iload_n 2, [], 0), (.if_icmp .ge 122, [167, 1, 0, 1], 0), (.iconst 0, [], 0), (.istore 4, [], 0), (.nop, [51, 1, 0, 1, 1, 1], 0)]),
  (51, [(.iload 4, [], 0), (.iload_n 2, [], 0), (.if_icmp .ge 107, [161, 1, 0, 1, 1], 0), (.iload_n 3, [], 0), (.iload 4, [], 0), (.if_icmp .eq 41, [101, 1, 0, 1, 1, 1], 0), (.aload_n 0, [], 0), (.getfield 31, [7, 14, 2], 0), (.bipush 11, [], 0), (.iload_n 3, [], 0), (.imul, [], 0), (.iaload, [], 0), (.ifCond .le 29, [101, 1, 0, 1, 1, 1], 0), (.aload_n 0, [], 0), (.getfield 31, [7, 14, 2], 0), (.bipush 11, [], 0), (.iload_n 3, [], 0), (.imul, [], 0), (.iaload, [], 0), (.aload_n 0, [], 0), (.getfield 31, [7, 14, 2], 0), (.bipush 11, [], 0), (.iload 4, [], 0), (.imul, [], 0), (.iaload, [], 0), (.if_icmp .gt 7, [101, 1, 0, 1, 1, 1], 0), (.iconst 1, [], 0), (.goto 4, [102, 1, 0, 1, 1, 1], 0)]),
  (101, [(.iconst 0, [], 0), (.nop, [102, 1, 0, 1, 1, 1], 0)]),
  (102, [(.istore 5, [], 0), (.iload 5, [], 0), (.ifCond .eq 46, [152, 1, 0, 1, 1, 1], 0), (.aload_n 0, [], 0), (.iload 4, [], 0), (.iconst 0, [], 0), (.iload_n 3, [], 0), (.invokevirtual 179, [100, 4, 1, 8, 7], 0), (.ifCond .eq 35, [152, 1, 0, 1, 1, 1], 0), (.aload_n 0, [], 0), (.iload 4, [], 0), (.aload_n 0, [], 0), (.getfield 31, [7, 14, 2], 0), (.bipush 11, [], 0), (.iload_n 3, [], 0), (.imul, [], 0), (.iaload, [], 0), (.aload_n 0, [], 0), (.getfield 31, [7, 14, 2], 0), (.bipush 11, [], 0), (.iload 4, [], 0), (.imul, [], 0), (.iaload, [], 0), (.invokevirtual 176, [101, 4, 1, 5, 7], 0), (.ifCond .eq 7, [152, 1, 0, 1, 1, 1], 0), (.iconst 1, [], 0), (.goto 4, [153, 1, 0, 1, 1, 1], 0)]),
  (152, [(.iconst 0, [], 0), (.nop, [153, 1, 0, 1, 1, 1], 0)]),
  (153, [(.istore 6, [], 0), (.iinc 4 1, [], 0), (.goto (-107), [51, 1, 0, 1, 1, 1], 0)]),
  (161, [(.iinc 3 1, [], 0), (.goto (-121), [43, 1, 0, 1, 1], 0)]),
  (167, [(.iconst 1, [], 0), (.istore_n 3, [], 0), (.nop, [169, 1, 0, 1, 1], 0)]),
  (169, [(.iload_n 3, [], 0), (.ifCond .eq 145, [315, 1], 0), (.iconst 0, [], 0), (.istore_n 3, [], 0), (.iconst 0, [], 0), (.istore 4, [], 0), (.nop, [178, 1, 0, 1, 1, 1], 0)]),
  (178, [(.iload 4, [], 0), (.bipush 88, [], 0), (.if_icmp .ge 130, [312, 1, 0, 1, 1], 0), (.iload 4, [], 0), (.bipush 11, [], 0), (.idiv, [], 0), (.istore 5, [], 0), (.iload 4, [], 0), (.bipush 11, [], 0), (.irem, [], 0), (.istore 6, [], 0), (.iconst 0, [], 0), (.istore 7, [], 0), (.nop, [202, 1, 0, 1, 1, 1, 1, 1, 1], 0)]),
  (202, [(.iload 7, [], 0), (.iload_n 2, [], 0), (.if_icmp .ge 101, [306, 1, 0, 1, 1, 1], 0), (.aload_n 0, [], 0), (.getfield 34, [7, 15, 2], 0), (.iload 4, [], 0), (.iaload, [], 0), (.ldc 149, [], 1000000), (.if_icmp .ge 89, [306, 1, 0, 1, 1, 1], 0), (.aload_n 0, [], 0), (.getfield 31, [7, 14, 2], 0), (.bipush 11, [], 0), (.iload 7, [], 0), (.imul, [], 0), (.iaload, [], 0), (.ifCond .le 20, [250, 1, 0, 1, 1, 1, 1, 1, 1], 0), (.aload_n 0, [], 0), (.iload 5, [], 0), (.iload 6, [], 0), (.iload 7, [], 0), (.invokevirtual 179, [100, 4, 1, 8, 7], 0), (.ifCond .eq 7, [250, 1, 0, 1, 1, 1, 1, 1, 1], 0), (.iconst 1, [], 0), (.goto 4, [251, 1, 0, 1, 1, 1, 1, 1, 1], 0)]),
  (250, [(.iconst 0, [], 0), (.nop, [251, 1, 0, 1, 1, 1, 1, 1, 1], 0)]),
  (251, [(.istore 8, [], 0), (.iload 8, [], 0), (.ifCond .eq 27, [282, 1, 0, 1, 1, 1, 1, 1, 1], 0), (.aload_n 0, [], 0), (.iload 5, [], 0), (.iload 6, [], 0), (.iload 7, [], 0), (.aload_n 0, [], 0), (.getfield 34, [7, 15, 2], 0), (.iload 4, [], 0), (.iaload, [], 0), (.invokevirtual 182, [102, 5, 1, 7, 7], 0), (.ifCond .eq 7, [282, 1, 0, 1, 1, 1, 1, 1, 1], 0), (.iconst 1, [], 0), (.goto 4, [283, 1, 0, 1, 1, 1, 1, 1, 1], 0)]),
  (282, [(.iconst 0, [], 0), (.nop, [283, 1, 0, 1, 1, 1, 1, 1, 1], 0)]),
  (283, [(.istore 9, [], 0), (.iload_n 3, [], 0), (.ifCond .ne 8, [294, 1, 0, 1, 0, 1, 1, 1, 1], 0), (.iload 9, [], 0), (.ifCond .eq 7, [298, 1, 0, 1, 0, 1, 1, 1, 1], 0), (.nop, [294, 1, 0, 1, 0, 1, 1, 1, 1], 0)]),
  (294, [(.iconst 1, [], 0), (.goto 4, [299, 1, 0, 1, 0, 1, 1, 1, 1], 0)]),
  (298, [(.iconst 0, [], 0), (.nop, [299, 1, 0, 1, 0, 1, 1, 1, 1], 0)]),
  (299, [(.istore_n 3, [], 0), (.iinc 7 1, [], 0), (.goto (-101), [202, 1, 0, 1, 1, 1, 1, 1, 1], 0)]),
  (306, [(.iinc 4 1, [], 0), (.goto (-131), [178, 1, 0, 1, 1, 1], 0)]),
  (312, [(.goto (-143), [169, 1, 0, 1, 1], 0)]),
  (315, [(.aload_n 0, [], 0), (.getfield 173, [7, 16, 0], 0), (.ldc 149, [], 1000000), (.if_icmp .ne 7, [328, 1], 0), (.iconst (-1), [], 0), (.goto 7, [332], 0)]),
  (328, [(.aload_n 0, [], 0), (.getfield 173, [7, 16, 0], 0), (.nop, [332], 0)]),
  (332, [(.ireturn, [0], 0)])]
/-- MindReadersModel.twice(I)I -/
def zc_104 : List (Nat × List zE) := [(0, [(.aload_n 0, [], 0), (.iload_n 1, [], 0), (.invokevirtual 138, [74, 2, 1, 2, 7], 0), (.ifCond .eq 11, [16], 0), (.aload_n 0, [], 0), (.iload_n 1, [], 0), (.invokevirtual 186, [103, 2, 1, 10, 7], 0), (.goto 5, [18], 0)]),
  (16, [(.bipush (-101), [], 0), (.nop, [18], 0)]),
  (18, [(.ireturn, [0], 0)])]
/-- MindReadersModel.saidBy(I)I -/
def zc_105 : List (Nat × List zE) := [(0, [(.aload_n 0, [], 0), (.getfield 16, [7, 6, 2], 0), (.iload_n 1, [], 0), (.iaload, [], 0), (.aload_n 0, [], 0), (.getfield 104, [7, 10, 0], 0), (.if_icmp .ge 12, [22, 1], 0), (.aload_n 0, [], 0), (.getfield 16, [7, 6, 2], 0), (.iload_n 1, [], 0), (.iaload, [], 0), (.goto 7, [26], 0)]),
  (22, [(.aload_n 0, [], 0), (.getfield 104, [7, 10, 0], 0), (.nop, [26], 0)]),
  (26, [(.ireturn, [0], 0)])]
/-- MindReadersModel.common(JJ)J -/
def zc_106 : List (Nat × List zE) := [(0, [(.lload_n 0, [], 0), (.lstore 4, [], 0), (.lload_n 2, [], 0), (.lstore 6, [], 0), (.nop, [6, 0, 0, 0, 0, 1, 0, 1], 0)]),
  (6, [(.lload 4, [], 0), (.lconst 0, [], 0), (.lcmp, [], 0), (.ifCond .eq 21, [31, 0, 0, 0, 0, 0, 0, 1], 0), (.lload 6, [], 0), (.lload 4, [], 0), (.lrem, [], 0), (.lstore 8, [], 0), (.lload 4, [], 0), (.lstore 6, [], 0), (.lload 8, [], 0), (.lstore 4, [], 0), (.goto (-22), [6, 0, 0, 0, 0, 1, 0, 1], 0)]),
  (31, [(.lload 6, [], 0), (.lreturn, [], 0)])]
/-- MindReadersModel.term(JJI)J -/
def zc_107 : List (Nat × List zE) := [(0, [(.lload_n 0, [], 0), (.lload_n 2, [], 0), (.invokestatic 189, [106, 2, 2, 10], 0), (.lstore 5, [], 0), (.iload 4, [], 0), (.ifCond .ne 10, [19, 0, 0, 1, 0, 0, 1], 0), (.lload_n 0, [], 0), (.lload 5, [], 0), (.ldiv, [], 0), (.goto 7, [23], 0)]),
  (19, [(.lload_n 2, [], 0), (.lload 5, [], 0), (.ldiv, [], 0), (.nop, [23], 0)]),
  (23, [(.lreturn, [], 0)])]
/-- MindReadersModel.isPart(I)Z -/
def zc_108 : List (Nat × List zE) := [(0, [(.iload_n 0, [], 0), (.i2l, [], 0), (.lconst 0, [], 0), (.lconst 1, [], 0), (.invokestatic 75, [67, 3, 1, 6], 0), (.ireturn, [1], 0)])]
/-- MindReadersModel.weighed(I)I -/
def zc_109 : List (Nat × List zE) := [(0, [(.iconst 0, [], 0), (.istore_n 2, [], 0), (.iconst 0, [], 0), (.istore_n 3, [], 0), (.nop, [4, 1, 1, 1, 1], 0)]),
  (4, [(.iload_n 3, [], 0), (.iload_n 1, [], 0), (.if_icmp .ge 18, [24, 0, 0, 1], 0), (.iload_n 2, [], 0), (.aload_n 0, [], 0), (.getfield 25, [7, 11, 2], 0), (.iload_n 3, [], 0), (.iaload, [], 0), (.iadd, [], 0), (.istore_n 2, [], 0), (.iinc 3 1, [], 0), (.goto (-17), [4, 1, 1, 1, 1], 0)]),
  (24, [(.iload_n 2, [], 0), (.ireturn, [0], 0)])]
/-- MindReadersModel.mean(II)I -/
def zc_110 : List (Nat × List zE) := [(0, [(.aload_n 0, [], 0), (.iload_n 1, [], 0), (.invokevirtual 138, [74, 2, 1, 2, 7], 0), (.ifCond .ne 6, [11, 1, 1, 1], 0), (.bipush (-101), [], 0), (.ireturn, [0], 0)]),
  (11, [(.iload_n 2, [], 0), (.invokestatic 193, [108, 1, 1, 1], 0), (.ifCond .ne 6, [21, 1, 1, 1], 0), (.bipush (-102), [], 0), (.ireturn, [0], 0)]),
  (21, [(.aload_n 0, [], 0), (.iload_n 1, [], 0), (.invokevirtual 196, [105, 2, 1, 2, 7], 0), (.istore_n 3, [], 0), (.iload_n 3, [], 0), (.ifCond .ne 6, [34, 1, 1, 1, 1], 0), (.bipush (-103), [], 0), (.ireturn, [0], 0)]),
  (34, [(.iconst 0, [], 0), (.istore 4, [], 0), (.iconst 0, [], 0), (.istore 5, [], 0), (.nop, [40, 1, 1, 1, 1, 1, 1], 0)]),
  (40, [(.iload 5, [], 0), (.iload_n 3, [], 0), (.if_icmp .ge 29, [72, 1, 0, 1, 1, 1], 0), (.iload 4, [], 0), (.aload_n 0, [], 0), (.getfield 25, [7, 11, 2], 0), (.iload 5, [], 0), (.iaload, [], 0), (.aload_n 0, [], 0), (.iload_n 1, [], 0), (.iload 5, [], 0), (.invokevirtual 134, [88, 3, 1, 6, 7], 0), (.imul, [], 0), (.iadd, [], 0), (.istore 4, [], 0), (.iinc 5 1, [], 0), (.goto (-29), [40, 1, 1, 1, 1, 1, 1], 0)]),
  (72, [(.iload 4, [], 0), (.i2l, [], 0), (.aload_n 0, [], 0), (.iload_n 3, [], 0), (.invokevirtual 199, [109, 2, 1, 4, 7], 0), (.i2l, [], 0), (.iload_n 2, [], 0), (.invokestatic 202, [107, 3, 2, 7], 0), (.l2i, [], 0), (.ireturn, [0], 0)])]
/-- MindReadersModel.oddnessOf(I)I -/
def zc_111 : List (Nat × List zE) := [(0, [(.iconst 0, [], 0), (.istore_n 2, [], 0), (.iconst 0, [], 0), (.istore_n 3, [], 0), (.nop, [4, 1, 1, 1, 1], 0)]),
  (4, [(.iload_n 3, [], 0), (.aload_n 0, [], 0), (.iload_n 1, [], 0), (.invokevirtual 196, [105, 2, 1, 2, 7], 0), (.if_icmp .ge 65, [75, 0, 0, 1], 0), (.bipush 48, [], 0), (.iload_n 1, [], 0), (.imul, [], 0), (.bipush 6, [], 0), (.iload_n 3, [], 0), (.imul, [], 0), (.iadd, [], 0), (.istore 4, [], 0), (.iconst 1, [], 0), (.istore 5, [], 0), (.nop, [27, 1, 1, 1, 1, 1, 1], 0)]),
  (27, [(.iload 5, [], 0), (.aload_n 0, [], 0), (.getfield 19, [7, 7, 2], 0), (.iload 4, [], 0), (.iaload, [], 0), (.if_icmp .gt 33, [69, 1, 1, 1, 1], 0), (.iload_n 2, [], 0), (.aload_n 0, [], 0), (.getfield 25, [7, 11, 2], 0), (.iload_n 3, [], 0), (.iaload, [], 0), (.aload_n 0, [], 0), (.aload_n 0, [], 0), (.getfield 19, [7, 7, 2], 0), (.iload 4, [], 0), (.iload 5, [], 0), (.iadd, [], 0), (.iaload, [], 0), (.invokevirtual 206, [84, 2, 1, 2, 7], 0), (.imul, [], 0), (.iadd, [], 0), (.istore_n 2, [], 0), (.iinc 5 1, [], 0), (.goto (-39), [27, 1, 1, 1, 1, 1, 1], 0)]),
  (69, [(.iinc 3 1, [], 0), (.goto (-68), [4, 1, 1, 1, 1], 0)]),
  (75, [(.iload_n 2, [], 0), (.ireturn, [0], 0)])]
/-- MindReadersModel.oddness(I)I -/
def zc_112 : List (Nat × List zE) := [(0, [(.aload_n 0, [], 0), (.iload_n 1, [], 0), (.invokevirtual 138, [74, 2, 1, 2, 7], 0), (.ifCond .eq 11, [16], 0), (.aload_n 0, [], 0), (.iload_n 1, [], 0), (.invokevirtual 209, [111, 2, 1, 6, 7], 0), (.goto 5, [18], 0)]),
  (16, [(.bipush (-101), [], 0), (.nop, [18], 0)]),
  (18, [(.ireturn, [0], 0)])]
/-- MindReadersModel.placeOf(II)I -/
def zc_113 : List (Nat × List zE) := [(0, [(.iconst 0, [], 0), (.istore_n 3, [], 0), (.iconst 0, [], 0), (.istore 4, [], 0), (.nop, [5, 1, 1, 1, 1, 1], 0)]),
  (5, [(.iload 4, [], 0), (.iload_n 2, [], 0), (.if_icmp .ge 55, [63, 0, 0, 0, 1], 0), (.iload_n 3, [], 0), (.aload_n 0, [], 0), (.getfield 25, [7, 11, 2], 0), (.iload 4, [], 0), (.iaload, [], 0), (.aload_n 0, [], 0), (.getfield 25, [7, 11, 2], 0), (.iload_n 1, [], 0), (.iaload, [], 0), (.if_icmp .gt 25, [50, 1, 1, 1, 0, 1], 0), (.aload_n 0, [], 0), (.getfield 25, [7, 11, 2], 0), (.iload 4, [], 0), (.iaload, [], 0), (.aload_n 0, [], 0), (.getfield 25, [7, 11, 2], 0), (.iload_n 1, [], 0), (.iaload, [], 0), (.if_icmp .ne 13, [54, 1, 1, 1, 0, 1], 0), (.iload 4, [], 0), (.iload_n 1, [], 0), (.if_icmp .ge 7, [54, 1, 1, 1, 0, 1], 0), (.nop, [50, 1, 1, 1, 0, 1], 0)]),
  (50, [(.iconst 1, [], 0), (.goto 4, [55, 1, 1, 1, 0, 1], 0)]),
  (54, [(.iconst 0, [], 0), (.nop, [55, 1, 1, 1, 0, 1], 0)]),
  (55, [(.iadd, [], 0), (.istore_n 3, [], 0), (.iinc 4 1, [], 0), (.goto (-55), [5, 1, 1, 1, 1, 1], 0)]),
  (63, [(.iload_n 3, [], 0), (.ireturn, [0], 0)])]
/-- MindReadersModel.speechAt(III)I -/
def zc_114 : List (Nat × List zE) := [(0, [(.iconst (-1), [], 0), (.istore 4, [], 0), (.iconst 0, [], 0), (.istore 5, [], 0), (.nop, [6, 1, 1, 1, 1, 1, 1], 0)]),
  (6, [(.iload 5, [], 0), (.iload_n 3, [], 0), (.if_icmp .ge 86, [95, 0, 0, 0, 0, 1], 0), (.iconst 0, [], 0), (.istore 6, [], 0), (.iconst 0, [], 0), (.istore 7, [], 0), (.nop, [18, 1, 1, 1, 1, 1, 1, 1, 1], 0)]),
  (18, [(.iload 7, [], 0), (.iload_n 3, [], 0), (.if_icmp .ge 53, [74, 1, 1, 1, 1, 1, 1, 1], 0), (.aload_n 0, [], 0), (.iload_n 1, [], 0), (.iload 7, [], 0), (.invokevirtual 134, [88, 3, 1, 6, 7], 0), (.aload_n 0, [], 0), (.iload_n 1, [], 0), (.iload 5, [], 0), (.invokevirtual 134, [88, 3, 1, 6, 7], 0), (.isub, [], 0), (.istore 8, [], 0), (.iload 6, [], 0), (.iload 8, [], 0), (.ifCond .lt 15, [60, 1, 1, 1, 1, 1, 1, 0, 1], 0), (.iload 8, [], 0), (.ifCond .ne 14, [64, 1, 1, 1, 1, 1, 1, 0, 1], 0), (.iload 7, [], 0), (.iload 5, [], 0), (.if_icmp .ge 7, [64, 1, 1, 1, 1, 1, 1, 0, 1], 0), (.nop, [60, 1, 1, 1, 1, 1, 1, 0, 1], 0)]),
  (60, [(.iconst 1, [], 0), (.goto 4, [65, 1, 1, 1, 1, 1, 1, 0, 1], 0)]),
  (64, [(.iconst 0, [], 0), (.nop, [65, 1, 1, 1, 1, 1, 1, 0, 1], 0)]),
  (65, [(.iadd, [], 0), (.istore 6, [], 0), (.iinc 7 1, [], 0), (.goto (-53), [18, 1, 1, 1, 1, 1, 1, 1, 1], 0)]),
  (74, [(.iload 6, [], 0), (.iload_n 2, [], 0), (.if_icmp .ne 8, [85, 1, 1, 1, 1, 1, 1], 0), (.iload 5, [], 0), (.goto 5, [87, 1, 1, 1, 1, 0, 1], 0)]),
  (85, [(.iload 4, [], 0), (.nop, [87, 1, 1, 1, 1, 0, 1], 0)]),
  (87, [(.istore 4, [], 0), (.iinc 5 1, [], 0), (.goto (-86), [6, 1, 1, 1, 1, 1, 1], 0)]),
  (95, [(.iload 4, [], 0), (.ireturn, [0], 0)])]
/-- MindReadersModel.dealt(II)I -/
def zc_115 : List (Nat × List zE) := [(0, [(.aload_n 0, [], 0), (.iload_n 1, [], 0), (.invokevirtual 138, [74, 2, 1, 2, 7], 0), (.ifCond .ne 6, [11, 1, 1, 1], 0), (.bipush (-101), [], 0), (.ireturn, [0], 0)]),
  (11, [(.iload_n 2, [], 0), (.invokestatic 193, [108, 1, 1, 1], 0), (.ifCond .ne 20, [35, 1, 1, 1], 0), (.iload_n 2, [], 0), (.i2l, [], 0), (.ldc2_w 212, [], 10), (.ldc2_w 214, [], 17), (.invokestatic 75, [67, 3, 1, 6], 0), (.ifCond .ne 6, [35, 1, 1, 1], 0), (.bipush (-102), [], 0), (.ireturn, [0], 0)]),
  (35, [(.aload_n 0, [], 0), (.iload_n 1, [], 0), (.invokevirtual 196, [105, 2, 1, 2, 7], 0), (.istore_n 3, [], 0), (.iload_n 3, [], 0), (.ifCond .ne 6, [48, 1, 1, 1, 1], 0), (.bipush (-103), [], 0), (.ireturn, [0], 0)]),
  (48, [(.iload_n 2, [], 0), (.iconst 1, [], 0), (.if_icmp .le 31, [81, 1, 1, 1, 1], 0), (.iload_n 2, [], 0), (.bipush 10, [], 0), (.isub, [], 0), (.iload_n 3, [], 0), (.if_icmp .ge 21, [79], 0), (.aload_n 0, [], 0), (.iload_n 1, [], 0), (.aload_n 0, [], 0), (.iload_n 2, [], 0), (.bipush 10, [], 0), (.isub, [], 0), (.iload_n 3, [], 0), (.invokevirtual 216, [113, 3, 1, 5, 7], 0), (.iload_n 3, [], 0), (.invokevirtual 219, [114, 4, 1, 9, 7], 0), (.goto 4, [80], 0)]),
  (79, [(.iconst (-1), [], 0), (.nop, [80], 0)]),
  (80, [(.ireturn, [0], 0)]),
  (81, [(.iconst 0, [], 0), (.istore 4, [], 0), (.iconst 0, [], 0), (.istore 5, [], 0), (.nop, [87, 1, 1, 1, 1, 1, 1], 0)]),
  (87, [(.iload 5, [], 0), (.iload_n 3, [], 0), (.if_icmp .ge 40, [130, 1, 0, 1, 1, 1], 0), (.iload 4, [], 0), (.aload_n 0, [], 0), (.getfield 25, [7, 11, 2], 0), (.iload 5, [], 0), (.iaload, [], 0), (.aload_n 0, [], 0), (.iload_n 1, [], 0), (.aload_n 0, [], 0), (.iload_n 1, [], 0), (.aload_n 0, [], 0), (.iload 5, [], 0), (.iload_n 3, [], 0), (.invokevirtual 216, [113, 3, 1, 5, 7], 0), (.iload_n 3, [], 0), (.invokevirtual 219, [114, 4, 1, 9, 7], 0), (.invokevirtual 134, [88, 3, 1, 6, 7], 0), (.imul, [], 0), (.iadd, [], 0), (.istore 4, [], 0), (.iinc 5 1, [], 0), (.goto (-40), [87, 1, 1, 1, 1, 1, 1], 0)]),
  (130, [(.iload 4, [], 0), (.i2l, [], 0), (.aload_n 0, [], 0), (.iload_n 3, [], 0), (.invokevirtual 199, [109, 2, 1, 4, 7], 0), (.i2l, [], 0), (.iload_n 2, [], 0), (.invokestatic 202, [107, 3, 2, 7], 0), (.l2i, [], 0), (.ireturn, [0], 0)])]
/-- MindReadersModel.takeLeast(I)I -/
def zc_116 : List (Nat × List zE) := [(0, [(.iconst (-1), [], 0), (.istore_n 2, [], 0), (.iconst 0, [], 0), (.istore_n 3, [], 0), (.nop, [4, 1, 1, 1, 1], 0)]),
  (4, [(.iload_n 3, [], 0), (.iload_n 1, [], 0), (.if_icmp .ge 44, [50, 1, 0, 1], 0), (.aload_n 0, [], 0), (.getfield 37, [7, 17, 2], 0), (.iload_n 3, [], 0), (.iaload, [], 0), (.ifCond .lt 27, [42, 1, 1, 1, 1], 0), (.iload_n 2, [], 0), (.iconst (-1), [], 0), (.if_icmp .eq 18, [38, 1, 1, 0, 1], 0), (.aload_n 0, [], 0), (.getfield 37, [7, 17, 2], 0), (.iload_n 3, [], 0), (.iaload, [], 0), (.aload_n 0, [], 0), (.getfield 37, [7, 17, 2], 0), (.iload_n 2, [], 0), (.iaload, [], 0), (.if_icmp .ge 7, [42, 1, 1, 1, 1], 0), (.nop, [38, 1, 1, 0, 1], 0)]),
  (38, [(.iload_n 3, [], 0), (.goto 4, [43, 1, 1, 0, 1], 0)]),
  (42, [(.iload_n 2, [], 0), (.nop, [43, 1, 1, 0, 1], 0)]),
  (43, [(.istore_n 2, [], 0), (.iinc 3 1, [], 0), (.goto (-43), [4, 1, 1, 1, 1], 0)]),
  (50, [(.aload_n 0, [], 0), (.getfield 37, [7, 17, 2], 0), (.iload_n 2, [], 0), (.iaload, [], 0), (.istore_n 3, [], 0), (.aload_n 0, [], 0), (.getfield 37, [7, 17, 2], 0), (.iload_n 2, [], 0), (.iconst (-1), [], 0), (.iastore, [], 0), (.iload_n 3, [], 0), (.ireturn, [0], 0)])]
/-- MindReadersModel.shortNow(I)I -/
def zc_117 : List (Nat × List zE) := [(0, [(.aload_n 0, [], 0), (.getfield 104, [7, 10, 0], 0), (.istore_n 2, [], 0), (.nop, [5, 1, 1, 1], 0)]),
  (5, [(.iload_n 2, [], 0), (.iconst 1, [], 0), (.isub, [], 0), (.iload_n 1, [], 0), (.iconst 1, [], 0), (.isub, [], 0), (.irem, [], 0), (.ifCond .le 9, [21, 1, 1, 1], 0), (.iinc 2 1, [], 0), (.goto (-13), [5, 1, 1, 1], 0)]),
  (21, [(.iconst 0, [], 0), (.istore_n 3, [], 0), (.nop, [23, 1, 1, 1, 1], 0)]),
  (23, [(.iload_n 3, [], 0), (.iload_n 2, [], 0), (.if_icmp .ge 33, [58, 1, 1, 1], 0), (.aload_n 0, [], 0), (.getfield 37, [7, 17, 2], 0), (.iload_n 3, [], 0), (.iload_n 3, [], 0), (.aload_n 0, [], 0), (.getfield 104, [7, 10, 0], 0), (.if_icmp .ge 12, [50, 1, 1, 1, 1], 0), (.aload_n 0, [], 0), (.getfield 25, [7, 11, 2], 0), (.iload_n 3, [], 0), (.iaload, [], 0), (.goto 4, [51, 1, 1, 1, 1], 0)]),
  (50, [(.iconst 0, [], 0), (.nop, [51, 1, 1, 1, 1], 0)]),
  (51, [(.iastore, [], 0), (.iinc 3 1, [], 0), (.goto (-32), [23, 1, 1, 1, 1], 0)]),
  (58, [(.iconst 0, [], 0), (.istore_n 3, [], 0), (.iload_n 2, [], 0), (.istore 4, [], 0), (.nop, [63, 1, 1, 1, 1, 1], 0)]),
  (63, [(.iload 4, [], 0), (.iconst 1, [], 0), (.if_icmp .le 75, [141, 0, 0, 0, 1], 0), (.iconst 0, [], 0), (.istore 5, [], 0), (.iconst 0, [], 0), (.istore 6, [], 0), (.nop, [75, 1, 1, 1, 1, 1, 1, 1], 0)]),
  (75, [(.iload 6, [], 0), (.iload_n 1, [], 0), (.if_icmp .ge 19, [97, 1, 1, 1, 1, 1, 1], 0), (.iload 5, [], 0), (.aload_n 0, [], 0), (.iload_n 2, [], 0), (.invokevirtual 222, [116, 2, 1, 4, 7], 0), (.iadd, [], 0), (.istore 5, [], 0), (.iinc 6 1, [], 0), (.goto (-19), [75, 1, 1, 1, 1, 1, 1, 1], 0)]),
  (97, [(.iconst 0, [], 0), (.istore 6, [], 0), (.nop, [100, 1, 1, 1, 1, 1, 1, 1], 0)]),
  (100, [(.aload_n 0, [], 0), (.getfield 37, [7, 17, 2], 0), (.iload 6, [], 0), (.iaload, [], 0), (.ifCond .lt 9, [116, 1, 1, 1, 1, 1, 1, 1], 0), (.iinc 6 1, [], 0), (.goto (-13), [100, 1, 1, 1, 1, 1, 1, 1], 0)]),
  (116, [(.aload_n 0, [], 0), (.getfield 37, [7, 17, 2], 0), (.iload 6, [], 0), (.iload 5, [], 0), (.iastore, [], 0), (.iload_n 3, [], 0), (.iload 5, [], 0), (.iadd, [], 0), (.istore_n 3, [], 0), (.iload 4, [], 0), (.iload_n 1, [], 0), (.iconst 1, [], 0), (.isub, [], 0), (.isub, [], 0), (.istore 4, [], 0), (.goto (-75), [63, 1, 1, 1, 1, 1], 0)]),
  (141, [(.iload_n 3, [], 0), (.ireturn, [0], 0)])]
/-- MindReadersModel.shortest(II)I -/
def zc_118 : List (Nat × List zE) := [(0, [(.iload_n 1, [], 0), (.i2l, [], 0), (.ldc2_w 168, [], 2), (.ldc2_w 225, [], 8), (.invokestatic 75, [67, 3, 1, 6], 0), (.ifCond .eq 10, [21], 0), (.iload_n 2, [], 0), (.invokestatic 193, [108, 1, 1, 1], 0), (.ifCond .ne 6, [24, 1, 1, 1], 0), (.nop, [21], 0)]),
  (21, [(.bipush (-102), [], 0), (.ireturn, [0], 0)]),
  (24, [(.aload_n 0, [], 0), (.getfield 104, [7, 10, 0], 0), (.ifCond .ne 6, [34, 1, 1, 1], 0), (.bipush (-103), [], 0), (.ireturn, [0], 0)]),
  (34, [(.aload_n 0, [], 0), (.iload_n 1, [], 0), (.invokevirtual 227, [117, 2, 1, 7, 7], 0), (.i2l, [], 0), (.aload_n 0, [], 0), (.aload_n 0, [], 0), (.getfield 104, [7, 10, 0], 0), (.invokevirtual 199, [109, 2, 1, 4, 7], 0), (.i2l, [], 0), (.iload_n 2, [], 0), (.invokestatic 202, [107, 3, 2, 7], 0), (.l2i, [], 0), (.ireturn, [0], 0)])]
/-- MindReadersModel.apartOf(I)I -/
def zc_119 : List (Nat × List zE) := [(0, [(.aload_n 0, [], 0), (.iload_n 1, [], 0), (.iconst 0, [], 0), (.invokevirtual 153, [87, 3, 0, 5, 7], 0), (.aload_n 0, [], 0), (.getfield 16, [7, 6, 2], 0), (.iload_n 1, [], 0), (.iaload, [], 0), (.iconst 2, [], 0), (.if_icmp .ge 7, [20, 1, 1], 0), (.iconst (-1), [], 0), (.goto 5, [22, 1, 1], 0)]),
  (20, [(.ldc 149, [], 1000000), (.nop, [22, 1, 1], 0)]),
  (22, [(.istore_n 2, [], 0), (.iconst 0, [], 0), (.istore_n 3, [], 0), (.nop, [25, 1, 1, 1, 1], 0)]),
  (25, [(.iload_n 3, [], 0), (.aload_n 0, [], 0), (.getfield 16, [7, 6, 2], 0), (.iload_n 1, [], 0), (.iaload, [], 0), (.if_icmp .ge 160, [192, 0, 0, 1], 0), (.iload_n 3, [], 0), (.iconst 1, [], 0), (.iadd, [], 0), (.istore 4, [], 0), (.nop, [40, 1, 1, 1, 1, 1], 0)]),
  (40, [(.iload 4, [], 0), (.aload_n 0, [], 0), (.getfield 16, [7, 6, 2], 0), (.iload_n 1, [], 0), (.iaload, [], 0), (.if_icmp .ge 138, [186, 1, 1, 1, 1], 0), (.iconst 0, [], 0), (.istore 5, [], 0), (.iconst 0, [], 0), (.istore 6, [], 0), (.nop, [57, 1, 1, 1, 1, 1, 1, 1], 0)]),
  (57, [(.iload 6, [], 0), (.aload_n 0, [], 0), (.getfield 31, [7, 14, 2], 0), (.bipush 11, [], 0), (.iload_n 3, [], 0), (.imul, [], 0), (.iaload, [], 0), (.if_icmp .ge 73, [141, 1, 1, 1, 1, 1, 1], 0), (.aload_n 0, [], 0), (.getfield 31, [7, 14, 2], 0), (.bipush 11, [], 0), (.iload_n 3, [], 0), (.imul, [], 0), (.iaload, [], 0), (.aload_n 0, [], 0), (.getfield 31, [7, 14, 2], 0), (.bipush 11, [], 0), (.iload 4, [], 0), (.imul, [], 0), (.iaload, [], 0), (.if_icmp .ne 51, [141, 1, 1, 1, 1, 1, 1], 0), (.iload 5, [], 0), (.aload_n 0, [], 0), (.getfield 31, [7, 14, 2], 0), (.bipush 11, [], 0), (.iload_n 3, [], 0), (.imul, [], 0), (.iconst 1, [], 0), (.iadd, [], 0), (.iload 6, [], 0), (.iadd, [], 0), (.iaload, [], 0), (.aload_n 0, [], 0), (.getfield 31, [7, 14, 2], 0), (.bipush 11, [], 0), (.iload 4, [], 0), (.imul, [], 0), (.iconst 1, [], 0), (.iadd, [], 0), (.iload 6, [], 0), (.iadd, [], 0), (.iaload, [], 0), (.if_icmp .ne 7, [131, 1, 1, 1, 1, 1, 0, 1], 0), (.iconst 0, [], 0), (.goto 4, [132, 1, 1, 1, 1, 1, 0, 1], 0)]),
  (131, [(.iconst 1, [], 0), (.nop, [132, 1, 1, 1, 1, 1, 0, 1], 0)]),
  (132, [(.iadd, [], 0), (.istore 5, [], 0), (.iinc 6 1, [], 0), (.goto (-81), [57, 1, 1, 1, 1, 1, 1, 1], 0)]),
  (141, [(.aload_n 0, [], 0), (.getfield 31, [7, 14, 2], 0), (.bipush 11, [], 0), (.iload_n 3, [], 0), (.imul, [], 0), (.iaload, [], 0), (.aload_n 0, [], 0), (.getfield 31, [7, 14, 2], 0), (.bipush 11, [], 0), (.iload 4, [], 0), (.imul, [], 0), (.iaload, [], 0), (.if_icmp .eq 7, [167, 1, 1, 1, 1, 1, 1], 0), (.iconst (-1), [], 0), (.goto 15, [179, 1, 1, 0, 1, 1], 0)]),
  (167, [(.iload 5, [], 0), (.iload_n 2, [], 0), (.if_icmp .ge 8, [178, 1, 1, 1, 1, 1], 0), (.iload 5, [], 0), (.goto 4, [179, 1, 1, 0, 1, 1], 0)]),
  (178, [(.iload_n 2, [], 0), (.nop, [179, 1, 1, 0, 1, 1], 0)]),
  (179, [(.istore_n 2, [], 0), (.iinc 4 1, [], 0), (.goto (-143), [40, 1, 1, 1, 1, 1], 0)]),
  (186, [(.iinc 3 1, [], 0), (.goto (-164), [25, 1, 1, 1, 1], 0)]),
  (192, [(.iload_n 2, [], 0), (.ireturn, [0], 0)])]
/-- MindReadersModel.apart(I)I -/
def zc_120 : List (Nat × List zE) := [(0, [(.aload_n 0, [], 0), (.iload_n 1, [], 0), (.invokevirtual 138, [74, 2, 1, 2, 7], 0), (.ifCond .eq 11, [16], 0), (.aload_n 0, [], 0), (.iload_n 1, [], 0), (.invokevirtual 230, [119, 2, 1, 7, 7], 0), (.goto 5, [18], 0)]),
  (16, [(.bipush (-101), [], 0), (.nop, [18], 0)]),
  (18, [(.ireturn, [0], 0)])]
/-- MindReadersModel.named(I)I -/
def zc_121 : List (Nat × List zE) := [(0, [(.aload_n 0, [], 0), (.iload_n 1, [], 0), (.invokevirtual 138, [74, 2, 1, 2, 7], 0), (.ifCond .ne 6, [11, 1, 1], 0), (.bipush (-101), [], 0), (.ireturn, [0], 0)]),
  (11, [(.aload_n 0, [], 0), (.iload_n 1, [], 0), (.iconst 0, [], 0), (.invokevirtual 153, [87, 3, 0, 5, 7], 0), (.aload_n 0, [], 0), (.invokevirtual 157, [93, 1, 1, 3, 7], 0), (.ifCond .eq 11, [32], 0), (.aload_n 0, [], 0), (.iload_n 1, [], 0), (.invokevirtual 161, [95, 2, 1, 6, 7], 0), (.goto 5, [34], 0)]),
  (32, [(.bipush (-103), [], 0), (.nop, [34], 0)]),
  (34, [(.ireturn, [0], 0)])]
/-- MindReadersModel.isAmong(II)Z -/
def zc_122 : List (Nat × List zE) := [(0, [(.aload_n 0, [], 0), (.getfield 31, [7, 14, 2], 0), (.bipush 11, [], 0), (.iload_n 1, [], 0), (.imul, [], 0), (.iaload, [], 0), (.iconst 4, [], 0), (.if_icmp .gt 7, [17, 1, 1, 1], 0), (.iconst 1, [], 0), (.goto 4, [18, 1, 1, 1], 0)]),
  (17, [(.iconst 0, [], 0), (.nop, [18, 1, 1, 1], 0)]),
  (18, [(.istore_n 3, [], 0), (.iconst 0, [], 0), (.istore 4, [], 0), (.nop, [22, 1, 1, 1, 1, 1], 0)]),
  (22, [(.iload 4, [], 0), (.aload_n 0, [], 0), (.getfield 31, [7, 14, 2], 0), (.bipush 11, [], 0), (.iload_n 1, [], 0), (.imul, [], 0), (.iaload, [], 0), (.if_icmp .ge 37, [70, 0, 0, 0, 1], 0), (.iload_n 3, [], 0), (.ifCond .eq 25, [62, 1, 1, 1, 0, 1], 0), (.aload_n 0, [], 0), (.getfield 31, [7, 14, 2], 0), (.bipush 11, [], 0), (.iload_n 1, [], 0), (.imul, [], 0), (.iconst 1, [], 0), (.iadd, [], 0), (.iload 4, [], 0), (.iadd, [], 0), (.iaload, [], 0), (.iload_n 2, [], 0), (.if_icmp .ge 7, [62, 1, 1, 1, 0, 1], 0), (.iconst 1, [], 0), (.goto 4, [63, 1, 1, 1, 0, 1], 0)]),
  (62, [(.iconst 0, [], 0), (.nop, [63, 1, 1, 1, 0, 1], 0)]),
  (63, [(.istore_n 3, [], 0), (.iinc 4 1, [], 0), (.goto (-45), [22, 1, 1, 1, 1, 1], 0)]),
  (70, [(.iload_n 3, [], 0), (.ireturn, [1], 0)])]
/-- MindReadersModel.right(IIIII)J -/
def zc_123 : List (Nat × List zE) := [(0, [(.aload_n 0, [], 0), (.iload_n 1, [], 0), (.invokevirtual 138, [74, 2, 1, 2, 7], 0), (.ifCond .eq 20, [25], 0), (.iload_n 2, [], 0), (.i2l, [], 0), (.lconst 0, [], 0), (.aload_n 0, [], 0), (.iload_n 1, [], 0), (.invokevirtual 196, [105, 2, 1, 2, 7], 0), (.iconst 1, [], 0), (.isub, [], 0), (.i2l, [], 0), (.invokestatic 75, [67, 3, 1, 6], 0), (.ifCond .ne 7, [29, 1, 1, 1, 1, 1, 1], 0), (.nop, [25], 0)]),
  (25, [(.ldc2_w 233, [], -101), (.lreturn, [], 0)]),
  (29, [(.iload_n 3, [], 0), (.i2l, [], 0), (.ldc2_w 168, [], 2), (.ldc2_w 225, [], 8), (.invokestatic 75, [67, 3, 1, 6], 0), (.ifCond .eq 24, [64], 0), (.iload 4, [], 0), (.i2l, [], 0), (.lconst 0, [], 0), (.ldc2_w 212, [], 10), (.invokestatic 75, [67, 3, 1, 6], 0), (.ifCond .eq 11, [64], 0), (.iload 5, [], 0), (.invokestatic 193, [108, 1, 1, 1], 0), (.ifCond .ne 7, [68, 1, 1, 1, 1, 1, 1], 0), (.nop, [64], 0)]),
  (64, [(.ldc2_w 235, [], -102), (.lreturn, [], 0)]),
  (68, [(.aload_n 0, [], 0), (.iload_n 1, [], 0), (.iconst 0, [], 0), (.invokevirtual 153, [87, 3, 0, 5, 7], 0), (.aload_n 0, [], 0), (.iload_n 2, [], 0), (.iload_n 3, [], 0), (.invokevirtual 237, [122, 3, 1, 5, 7], 0), (.ifCond .ne 7, [87, 1, 1, 1, 1, 1, 1], 0), (.ldc2_w 240, [], -103), (.lreturn, [], 0)]),
  (87, [(.aload_n 0, [], 0), (.getfield 31, [7, 14, 2], 0), (.bipush 11, [], 0), (.iload_n 2, [], 0), (.imul, [], 0), (.iaload, [], 0), (.istore 6, [], 0), (.iconst 1, [], 0), (.istore 7, [], 0), (.lconst 1, [], 0), (.lstore 8, [], 0), (.iconst 0, [], 0), (.istore 10, [], 0), (.nop, [107, 1, 1, 1, 1, 1, 1, 1, 1, 1, 0, 1], 0)]),
  (107, [(.iload 10, [], 0), (.iload 6, [], 0), (.if_icmp .ge 28, [139, 1, 1, 1, 1, 1, 1, 1, 1, 1], 0), (.iload 7, [], 0), (.iload_n 3, [], 0), (.imul, [], 0), (.istore 7, [], 0), (.lload 8, [], 0), (.ldc2_w 212, [], 10), (.iload_n 3, [], 0), (.iconst 1, [], 0), (.isub, [], 0), (.i2l, [], 0), (.lmul, [], 0), (.lmul, [], 0), (.lstore 8, [], 0), (.iinc 10 1, [], 0), (.goto (-29), [107, 1, 1, 1, 1, 1, 1, 1, 1, 1, 0, 1], 0)]),
  (139, [(.lconst 0, [], 0), (.lstore 10, [], 0), (.aload_n 0, [], 0), (.iload 6, [], 0), (.putfield 114, [7, 13, 0], 0), (.iconst 0, [], 0), (.istore 12, [], 0), (.nop, [151, 1, 1, 1, 1, 1, 1, 1, 1, 1, 0, 1, 0, 1], 0)]),
  (151, [(.iload 12, [], 0), (.iload 7, [], 0), (.if_icmp .ge 116, [271, 0, 0, 0, 0, 0, 1, 0, 0, 1, 0, 1], 0), (.iload 12, [], 0), (.istore 13, [], 0), (.lconst 1, [], 0), (.lstore 14, [], 0), (.iconst 0, [], 0), (.istore 16, [], 0), (.nop, [168, 1, 1, 1, 1, 1, 1, 1, 1, 1, 0, 1, 0, 1, 1, 1, 0, 1], 0)]),
  (168, [(.iload 16, [], 0), (.iload 6, [], 0), (.if_icmp .ge 73, [245, 1, 1, 1, 1, 1, 1, 1, 1, 1, 0, 1, 0, 1, 0, 1], 0), (.aload_n 0, [], 0), (.getfield 28, [7, 12, 2], 0), (.iload 16, [], 0), (.iload 13, [], 0), (.iload_n 3, [], 0), (.irem, [], 0), (.iastore, [], 0), (.iload 13, [], 0), (.iload_n 3, [], 0), (.idiv, [], 0), (.istore 13, [], 0), (.lload 14, [], 0), (.aload_n 0, [], 0), (.getfield 28, [7, 12, 2], 0), (.iload 16, [], 0), (.iaload, [], 0), (.aload_n 0, [], 0), (.getfield 31, [7, 14, 2], 0), (.bipush 11, [], 0), (.iload_n 2, [], 0), (.imul, [], 0), (.iconst 1, [], 0), (.iadd, [], 0), (.iload 16, [], 0), (.iadd, [], 0), (.iaload, [], 0), (.if_icmp .ne 18, [233, 1, 1, 1, 1, 1, 1, 1, 1, 1, 0, 1, 0, 1, 1, 0, 0, 1], 0), (.ldc2_w 212, [], 10), (.iload 4, [], 0), (.i2l, [], 0), (.lsub, [], 0), (.iload_n 3, [], 0), (.iconst 1, [], 0), (.isub, [], 0), (.i2l, [], 0), (.lmul, [], 0), (.goto 6, [236, 1, 1, 1, 1, 1, 1, 1, 1, 1, 0, 1, 0, 1, 1, 0, 0, 1], 0)]),
  (233, [(.iload 4, [], 0), (.i2l, [], 0), (.nop, [236, 1, 1, 1, 1, 1, 1, 1, 1, 1, 0, 1, 0, 1, 1, 0, 0, 1], 0)]),
  (236, [(.lmul, [], 0), (.lstore 14, [], 0), (.iinc 16 1, [], 0), (.goto (-74), [168, 1, 1, 1, 1, 1, 1, 1, 1, 1, 0, 1, 0, 1, 1, 1, 0, 1], 0)]),
  (245, [(.lload 10, [], 0), (.aload_n 0, [], 0), (.iload_n 1, [], 0), (.invokevirtual 161, [95, 2, 1, 6, 7], 0), (.iload_n 2, [], 0), (.if_icmp .ne 8, [261, 1, 1, 1, 1, 1, 1, 1, 1, 1, 0, 0, 0, 1], 0), (.lload 14, [], 0), (.goto 4, [262, 1, 1, 1, 1, 1, 1, 1, 1, 1, 0, 0, 0, 1], 0)]),
  (261, [(.lconst 0, [], 0), (.nop, [262, 1, 1, 1, 1, 1, 1, 1, 1, 1, 0, 0, 0, 1], 0)]),
  (262, [(.ladd, [], 0), (.lstore 10, [], 0), (.iinc 12 1, [], 0), (.goto (-117), [151, 1, 1, 1, 1, 1, 1, 1, 1, 1, 0, 1, 0, 1], 0)]),
  (271, [(.lload 10, [], 0), (.lload 8, [], 0), (.iload 5, [], 0), (.invokestatic 202, [107, 3, 2, 7], 0), (.lreturn, [], 0)])]
/-- MindReadersModel.note(I)I -/
def zc_124 : List (Nat × List zE) := [(0, [(.aload_n 0, [], 0), (.iload_n 1, [], 0), (.invokevirtual 107, [80, 2, 1, 2, 7], 0), (.ifCond .ne 6, [11, 1, 1], 0), (.bipush (-101), [], 0), (.ireturn, [0], 0)]),
  (11, [(.aload_n 0, [], 0), (.invokevirtual 157, [93, 1, 1, 3, 7], 0), (.ifCond .eq 12, [27], 0), (.aload_n 0, [], 0), (.getfield 62, [7, 1, 0], 0), (.bipush 8, [], 0), (.if_icmp .le 6, [30, 1, 1], 0), (.nop, [27], 0)]),
  (27, [(.bipush (-103), [], 0), (.ireturn, [0], 0)]),
  (30, [(.aload_n 0, [], 0), (.getfield 242, [7, 18, 0], 0), (.bipush 10, [], 0), (.if_icmp .ne 6, [42, 1, 1], 0), (.bipush (-104), [], 0), (.ireturn, [0], 0)]),
  (42, [(.aload_n 0, [], 0), (.getfield 40, [7, 19, 2], 0), (.bipush 10, [], 0), (.aload_n 0, [], 0), (.getfield 242, [7, 18, 0], 0), (.imul, [], 0), (.iload_n 1, [], 0), (.iastore, [], 0), (.aload_n 0, [], 0), (.getfield 40, [7, 19, 2], 0), (.bipush 10, [], 0), (.aload_n 0, [], 0), (.getfield 242, [7, 18, 0], 0), (.imul, [], 0), (.iconst 1, [], 0), (.iadd, [], 0), (.aload_n 0, [], 0), (.getfield 62, [7, 1, 0], 0), (.iastore, [], 0), (.iconst 0, [], 0), (.istore_n 2, [], 0), (.nop, [75, 1, 0, 1], 0)]),
  (75, [(.iload_n 2, [], 0), (.aload_n 0, [], 0), (.getfield 62, [7, 1, 0], 0), (.if_icmp .ge 34, [114, 1], 0), (.aload_n 0, [], 0), (.getfield 40, [7, 19, 2], 0), (.bipush 10, [], 0), (.aload_n 0, [], 0), (.getfield 242, [7, 18, 0], 0), (.imul, [], 0), (.iconst 2, [], 0), (.iadd, [], 0), (.iload_n 2, [], 0), (.iadd, [], 0), (.aload_n 0, [], 0), (.getfield 7, [7, 0, 2], 0), (.iload_n 2, [], 0), (.iaload, [], 0), (.bipush 97, [], 0), (.isub, [], 0), (.iastore, [], 0), (.iinc 2 1, [], 0), (.goto (-36), [75, 1, 0, 1], 0)]),
  (114, [(.aload_n 0, [], 0), (.dup, [], 0), (.getfield 242, [7, 18, 0], 0), (.iconst 1, [], 0), (.iadd, [], 0), (.putfield 242, [7, 18, 0], 0), (.aload_n 0, [], 0), (.iconst 0, [], 0), (.putfield 62, [7, 1, 0], 0), (.aload_n 0, [], 0), (.getfield 242, [7, 18, 0], 0), (.ireturn, [0], 0)])]
/-- MindReadersModel.forget()I -/
def zc_125 : List (Nat × List zE) := [(0, [(.aload_n 0, [], 0), (.getfield 242, [7, 18, 0], 0), (.istore_n 1, [], 0), (.aload_n 0, [], 0), (.iconst 0, [], 0), (.putfield 242, [7, 18, 0], 0), (.iload_n 1, [], 0), (.ireturn, [0], 0)])]
/-- MindReadersModel.isSaid(III)Z -/
def zc_126 : List (Nat × List zE) := [(0, [(.iload_n 3, [], 0), (.aload_n 0, [], 0), (.getfield 16, [7, 6, 2], 0), (.iload_n 2, [], 0), (.iaload, [], 0), (.if_icmp .lt 5, [12, 1, 1, 0, 1], 0), (.iconst 0, [], 0), (.ireturn, [1], 0)]),
  (12, [(.aload_n 0, [], 0), (.iconst 0, [], 0), (.putfield 114, [7, 13, 0], 0), (.iconst 0, [], 0), (.istore 4, [], 0), (.nop, [20, 1, 1, 0, 1, 1], 0)]),
  (20, [(.iload 4, [], 0), (.aload_n 0, [], 0), (.getfield 40, [7, 19, 2], 0), (.bipush 10, [], 0), (.iload_n 1, [], 0), (.imul, [], 0), (.iconst 1, [], 0), (.iadd, [], 0), (.iaload, [], 0), (.if_icmp .ge 27, [60, 1, 0, 0, 1], 0), (.aload_n 0, [], 0), (.aload_n 0, [], 0), (.getfield 40, [7, 19, 2], 0), (.bipush 10, [], 0), (.iload_n 1, [], 0), (.imul, [], 0), (.iconst 2, [], 0), (.iadd, [], 0), (.iload 4, [], 0), (.iadd, [], 0), (.iaload, [], 0), (.invokevirtual 117, [85, 2, 0, 3, 7], 0), (.iinc 4 1, [], 0), (.goto (-37), [20, 1, 1, 0, 1, 1], 0)]),
  (60, [(.aload_n 0, [], 0), (.iload_n 3, [], 0), (.invokevirtual 150, [94, 2, 1, 4, 7], 0), (.ifCond .ne 7, [72], 0), (.iconst 1, [], 0), (.goto 4, [73], 0)]),
  (72, [(.iconst 0, [], 0), (.nop, [73], 0)]),
  (73, [(.ireturn, [1], 0)])]
/-- MindReadersModel.whichNow()I -/
def zc_127 : List (Nat × List zE) := [(0, [(.iconst 0, [], 0), (.istore_n 1, [], 0), (.iconst 0, [], 0), (.istore_n 2, [], 0), (.nop, [4, 1, 1, 1], 0)]),
  (4, [(.iload_n 2, [], 0), (.aload_n 0, [], 0), (.getfield 87, [7, 5, 0], 0), (.if_icmp .ge 79, [88, 0, 1], 0), (.aload_n 0, [], 0), (.iload_n 2, [], 0), (.iconst 0, [], 0), (.invokevirtual 153, [87, 3, 0, 5, 7], 0), (.iconst 1, [], 0), (.istore_n 3, [], 0), (.iconst 0, [], 0), (.istore 4, [], 0), (.nop, [23, 1, 1, 1, 1, 1], 0)]),
  (23, [(.iload 4, [], 0), (.aload_n 0, [], 0), (.getfield 242, [7, 18, 0], 0), (.if_icmp .ge 39, [68, 1, 1, 1, 1], 0), (.iload_n 3, [], 0), (.ifCond .eq 27, [60, 1, 1, 1, 0, 1], 0), (.aload_n 0, [], 0), (.iload 4, [], 0), (.iload_n 2, [], 0), (.aload_n 0, [], 0), (.getfield 40, [7, 19, 2], 0), (.bipush 10, [], 0), (.iload 4, [], 0), (.imul, [], 0), (.iaload, [], 0), (.invokevirtual 245, [126, 4, 1, 5, 7], 0), (.ifCond .eq 7, [60, 1, 1, 1, 0, 1], 0), (.iconst 1, [], 0), (.goto 4, [61, 1, 1, 1, 0, 1], 0)]),
  (60, [(.iconst 0, [], 0), (.nop, [61, 1, 1, 1, 0, 1], 0)]),
  (61, [(.istore_n 3, [], 0), (.iinc 4 1, [], 0), (.goto (-42), [23, 1, 1, 1, 1, 1], 0)]),
  (68, [(.iload_n 1, [], 0), (.iload_n 3, [], 0), (.ifCond .eq 9, [79, 1, 0, 1], 0), (.iconst 1, [], 0), (.iload_n 2, [], 0), (.ishl, [], 0), (.goto 4, [80, 1, 0, 1], 0)]),
  (79, [(.iconst 0, [], 0), (.nop, [80, 1, 0, 1], 0)]),
  (80, [(.ior, [], 0), (.istore_n 1, [], 0), (.iinc 2 1, [], 0), (.goto (-81), [4, 1, 1, 1], 0)]),
  (88, [(.iload_n 1, [], 0), (.ireturn, [0], 0)])]
/-- MindReadersModel.which()I -/
def zc_128 : List (Nat × List zE) := [(0, [(.aload_n 0, [], 0), (.invokevirtual 248, [127, 1, 1, 5, 7], 0), (.ireturn, [0], 0)])]
/-- MindReadersModel.step(II)I -/
def zc_129 : List (Nat × List zE) := [(0, [(.aload_n 0, [], 0), (.iload_n 1, [], 0), (.invokevirtual 138, [74, 2, 1, 2, 7], 0), (.ifCond .ne 6, [11, 1, 1, 1], 0), (.bipush (-101), [], 0), (.ireturn, [0], 0)]),
  (11, [(.iload_n 2, [], 0), (.i2l, [], 0), (.lconst 0, [], 0), (.ldc2_w 102, [], 99), (.invokestatic 75, [67, 3, 1, 6], 0), (.ifCond .ne 6, [26, 1, 1, 1], 0), (.bipush (-102), [], 0), (.ireturn, [0], 0)]),
  (26, [(.aload_n 0, [], 0), (.iload_n 1, [], 0), (.invokevirtual 196, [105, 2, 1, 2, 7], 0), (.istore_n 3, [], 0), (.iload_n 3, [], 0), (.ifCond .ne 6, [39, 1, 1, 1, 1], 0), (.bipush (-103), [], 0), (.ireturn, [0], 0)]),
  (39, [(.aload_n 0, [], 0), (.iload_n 1, [], 0), (.iconst 0, [], 0), (.invokevirtual 153, [87, 3, 0, 5, 7], 0), (.iconst 0, [], 0), (.istore 4, [], 0), (.nop, [48, 1, 1, 1, 1, 1], 0)]),
  (48, [(.iload 4, [], 0), (.bipush 8, [], 0), (.if_icmp .ge 87, [139], 0), (.iconst 1, [], 0), (.istore 5, [], 0), (.iconst 0, [], 0), (.istore 6, [], 0), (.nop, [61, 1, 1, 1, 1, 1, 1, 1], 0)]),
  (61, [(.iload 6, [], 0), (.aload_n 0, [], 0), (.getfield 242, [7, 18, 0], 0), (.if_icmp .ge 58, [125, 1, 1, 1, 1, 1, 1], 0), (.aload_n 0, [], 0), (.getfield 40, [7, 19, 2], 0), (.bipush 10, [], 0), (.iload 6, [], 0), (.imul, [], 0), (.iaload, [], 0), (.istore 7, [], 0), (.iload 5, [], 0), (.ifCond .eq 32, [116, 1, 1, 1, 1, 1, 0, 1], 0), (.iload 7, [], 0), (.iload_n 3, [], 0), (.if_icmp .ge 26, [116, 1, 1, 1, 1, 1, 0, 1], 0), (.aload_n 0, [], 0), (.iload 6, [], 0), (.iload_n 1, [], 0), (.iload 7, [], 0), (.iload 4, [], 0), (.iload_n 2, [], 0), (.imul, [], 0), (.iadd, [], 0), (.iload_n 3, [], 0), (.irem, [], 0), (.invokevirtual 245, [126, 4, 1, 5, 7], 0), (.ifCond .eq 7, [116, 1, 1, 1, 1, 1, 0, 1], 0), (.iconst 1, [], 0), (.goto 4, [117, 1, 1, 1, 1, 1, 0, 1], 0)]),
  (116, [(.iconst 0, [], 0), (.nop, [117, 1, 1, 1, 1, 1, 0, 1], 0)]),
  (117, [(.istore 5, [], 0), (.iinc 6 1, [], 0), (.goto (-61), [61, 1, 1, 1, 1, 1, 1, 1], 0)]),
  (125, [(.iload 5, [], 0), (.ifCond .eq 6, [133, 1, 1, 1, 1, 1], 0), (.iload 4, [], 0), (.ireturn, [0], 0)]),
  (133, [(.iinc 4 1, [], 0), (.goto (-88), [48, 1, 1, 1, 1, 1], 0)]),
  (139, [(.iconst (-1), [], 0), (.ireturn, [0], 0)])]
/-- MindReadersModel.seen(II)J -/
def zc_130 : List (Nat × List zE) := [(0, [(.iload_n 1, [], 0), (.i2l, [], 0), (.lconst 1, [], 0), (.ldc2_w 251, [], 6), (.invokestatic 75, [67, 3, 1, 6], 0), (.ifCond .eq 10, [19], 0), (.iload_n 2, [], 0), (.invokestatic 193, [108, 1, 1, 1], 0), (.ifCond .ne 7, [23, 1, 1, 1], 0), (.nop, [19], 0)]),
  (19, [(.ldc2_w 235, [], -102), (.lreturn, [], 0)]),
  (23, [(.aload_n 0, [], 0), (.getfield 104, [7, 10, 0], 0), (.ifCond .ne 7, [34, 1, 1, 1], 0), (.ldc2_w 240, [], -103), (.lreturn, [], 0)]),
  (34, [(.iconst 0, [], 0), (.istore_n 3, [], 0), (.nop, [36, 1, 1, 1, 1], 0)]),
  (36, [(.iload_n 3, [], 0), (.sipush 256, [], 0), (.if_icmp .ge 24, [64, 1, 1, 1], 0), (.aload_n 0, [], 0), (.getfield 43, [7, 20, 2], 0), (.iload_n 3, [], 0), (.iload_n 3, [], 0), (.ifCond .ne 7, [56, 1, 1, 1, 1], 0), (.lconst 1, [], 0), (.goto 4, [57, 1, 1, 1, 1], 0)]),
  (56, [(.lconst 0, [], 0), (.nop, [57, 1, 1, 1, 1], 0)]),
  (57, [(.lastore, [], 0), (.iinc 3 1, [], 0), (.goto (-25), [36, 1, 1, 1, 1], 0)]),
  (64, [(.lconst 1, [], 0), (.lstore_n 3, [], 0), (.iconst 0, [], 0), (.istore 5, [], 0), (.nop, [69, 1, 1, 1, 1, 0, 1], 0)]),
  (69, [(.iload 5, [], 0), (.iload_n 1, [], 0), (.if_icmp .ge 138, [210, 1, 0, 1, 1], 0), (.lload_n 3, [], 0), (.aload_n 0, [], 0), (.aload_n 0, [], 0), (.getfield 104, [7, 10, 0], 0), (.invokevirtual 199, [109, 2, 1, 4, 7], 0), (.i2l, [], 0), (.lmul, [], 0), (.lstore_n 3, [], 0), (.iconst 0, [], 0), (.istore 6, [], 0), (.nop, [90, 1, 1, 1, 1, 0, 1, 1], 0)]),
  (90, [(.iload 6, [], 0), (.sipush 256, [], 0), (.if_icmp .ge 31, [126, 1, 1, 1, 1, 0, 1], 0), (.aload_n 0, [], 0), (.getfield 47, [7, 21, 2], 0), (.iload 6, [], 0), (.aload_n 0, [], 0), (.getfield 43, [7, 20, 2], 0), (.iload 6, [], 0), (.laload, [], 0), (.lastore, [], 0), (.aload_n 0, [], 0), (.getfield 43, [7, 20, 2], 0), (.iload 6, [], 0), (.lconst 0, [], 0), (.lastore, [], 0), (.iinc 6 1, [], 0), (.goto (-33), [90, 1, 1, 1, 1, 0, 1, 1], 0)]),
  (126, [(.iconst 0, [], 0), (.istore 6, [], 0), (.nop, [129, 1, 1, 1, 1, 0, 1, 1], 0)]),
  (129, [(.iload 6, [], 0), (.sipush 256, [], 0), (.if_icmp .ge 70, [204, 1, 1, 1, 1, 0, 1], 0), (.iconst 0, [], 0), (.istore 7, [], 0), (.nop, [140, 1, 1, 1, 1, 0, 1, 1, 1], 0)]),
  (140, [(.iload 7, [], 0), (.aload_n 0, [], 0), (.getfield 104, [7, 10, 0], 0), (.if_icmp .ge 52, [198, 1, 1, 1, 1, 0, 1, 1], 0), (.aload_n 0, [], 0), (.getfield 47, [7, 21, 2], 0), (.iload 6, [], 0), (.laload, [], 0), (.lconst 0, [], 0), (.lcmp, [], 0), (.ifCond .le 40, [198, 1, 1, 1, 1, 0, 1, 1], 0), (.aload_n 0, [], 0), (.getfield 43, [7, 20, 2], 0), (.iload 6, [], 0), (.iconst 1, [], 0), (.iload 7, [], 0), (.ishl, [], 0), (.ior, [], 0), (.dup2, [], 0), (.laload, [], 0), (.aload_n 0, [], 0), (.getfield 47, [7, 21, 2], 0), (.iload 6, [], 0), (.laload, [], 0), (.aload_n 0, [], 0), (.getfield 25, [7, 11, 2], 0), (.iload 7, [], 0), (.iaload, [], 0), (.i2l, [], 0), (.lmul, [], 0), (.ladd, [], 0), (.lastore, [], 0), (.iinc 7 1, [], 0), (.goto (-55), [140, 1, 1, 1, 1, 0, 1, 1, 1], 0)]),
  (198, [(.iinc 6 1, [], 0), (.goto (-72), [129, 1, 1, 1, 1, 0, 1, 1], 0)]),
  (204, [(.iinc 5 1, [], 0), (.goto (-138), [69, 1, 1, 1, 1, 0, 1], 0)]),
  (210, [(.aload_n 0, [], 0), (.getfield 43, [7, 20, 2], 0), (.iconst 1, [], 0), (.aload_n 0, [], 0), (.getfield 104, [7, 10, 0], 0), (.ishl, [], 0), (.iconst 1, [], 0), (.isub, [], 0), (.laload, [], 0), (.lload_n 3, [], 0), (.iload_n 2, [], 0), (.invokestatic 202, [107, 3, 2, 7], 0), (.lreturn, [], 0)])]
/-- MindReadersModel.isLike(III)Z -/
def zc_131 : List (Nat × List zE) := [(0, [(.bipush 48, [], 0), (.iload_n 1, [], 0), (.imul, [], 0), (.bipush 6, [], 0), (.iload_n 3, [], 0), (.imul, [], 0), (.iadd, [], 0), (.istore 4, [], 0), (.bipush 48, [], 0), (.iload_n 2, [], 0), (.imul, [], 0), (.bipush 6, [], 0), (.iload_n 3, [], 0), (.imul, [], 0), (.iadd, [], 0), (.istore 5, [], 0), (.aload_n 0, [], 0), (.getfield 19, [7, 7, 2], 0), (.iload 4, [], 0), (.iaload, [], 0), (.aload_n 0, [], 0), (.getfield 19, [7, 7, 2], 0), (.iload 5, [], 0), (.iaload, [], 0), (.if_icmp .ne 7, [43, 1, 0, 0, 0, 1, 1], 0), (.iconst 1, [], 0), (.goto 4, [44, 1, 0, 0, 0, 1, 1], 0)]),
  (43, [(.iconst 0, [], 0), (.nop, [44, 1, 0, 0, 0, 1, 1], 0)]),
  (44, [(.istore 6, [], 0), (.iconst 1, [], 0), (.istore 7, [], 0), (.nop, [49, 1, 0, 0, 0, 1, 1, 1, 1], 0)]),
  (49, [(.iload 7, [], 0), (.aload_n 0, [], 0), (.getfield 19, [7, 7, 2], 0), (.iload 4, [], 0), (.iaload, [], 0), (.if_icmp .gt 44, [102, 0, 0, 0, 0, 0, 0, 1], 0), (.iload 6, [], 0), (.ifCond .eq 39, [102, 0, 0, 0, 0, 0, 0, 1], 0), (.aload_n 0, [], 0), (.getfield 19, [7, 7, 2], 0), (.iload 4, [], 0), (.iload 7, [], 0), (.iadd, [], 0), (.iaload, [], 0), (.aload_n 0, [], 0), (.getfield 19, [7, 7, 2], 0), (.iload 5, [], 0), (.iload 7, [], 0), (.iadd, [], 0), (.iaload, [], 0), (.if_icmp .ne 7, [93, 1, 0, 0, 0, 1, 1, 0, 1], 0), (.iconst 1, [], 0), (.goto 4, [94, 1, 0, 0, 0, 1, 1, 0, 1], 0)]),
  (93, [(.iconst 0, [], 0), (.nop, [94, 1, 0, 0, 0, 1, 1, 0, 1], 0)]),
  (94, [(.istore 6, [], 0), (.iinc 7 1, [], 0), (.goto (-50), [49, 1, 0, 0, 0, 1, 1, 1, 1], 0)]),
  (102, [(.iload 6, [], 0), (.ireturn, [1], 0)])]
/-- MindReadersModel.changeOf(II)I -/
def zc_132 : List (Nat × List zE) := [(0, [(.iconst 0, [], 0), (.istore_n 3, [], 0), (.iconst 0, [], 0), (.istore 4, [], 0), (.nop, [5, 1, 1, 1, 1, 1], 0)]),
  (5, [(.iload 4, [], 0), (.aload_n 0, [], 0), (.getfield 16, [7, 6, 2], 0), (.iload_n 2, [], 0), (.iaload, [], 0), (.if_icmp .ge 57, [70, 0, 0, 0, 1], 0), (.iload 4, [], 0), (.aload_n 0, [], 0), (.getfield 16, [7, 6, 2], 0), (.iload_n 1, [], 0), (.iaload, [], 0), (.if_icmp .ge 18, [42, 1, 1, 1, 1, 1], 0), (.aload_n 0, [], 0), (.iload_n 1, [], 0), (.iload_n 2, [], 0), (.iload 4, [], 0), (.invokevirtual 253, [131, 4, 1, 8, 7], 0), (.ifCond .eq 7, [42, 1, 1, 1, 1, 1], 0), (.iconst 1, [], 0), (.goto 4, [43, 1, 1, 1, 1, 1], 0)]),
  (42, [(.iconst 0, [], 0), (.nop, [43, 1, 1, 1, 1, 1], 0)]),
  (43, [(.istore 5, [], 0), (.iload_n 3, [], 0), (.iload 5, [], 0), (.ifCond .eq 7, [55, 1, 1, 1, 0, 1], 0), (.iconst 0, [], 0), (.goto 10, [62, 1, 1, 1, 0, 1], 0)]),
  (55, [(.aload_n 0, [], 0), (.iload_n 2, [], 0), (.iload 4, [], 0), (.invokevirtual 134, [88, 3, 1, 6, 7], 0), (.nop, [62, 1, 1, 1, 0, 1], 0)]),
  (62, [(.iadd, [], 0), (.istore_n 3, [], 0), (.iinc 4 1, [], 0), (.goto (-62), [5, 1, 1, 1, 1, 1], 0)]),
  (70, [(.iload_n 3, [], 0), (.ireturn, [0], 0)])]
/-- MindReadersModel.change(II)I -/
def zc_133 : List (Nat × List zE) := [(0, [(.aload_n 0, [], 0), (.iload_n 1, [], 0), (.invokevirtual 138, [74, 2, 1, 2, 7], 0), (.ifCond .eq 20, [25], 0), (.aload_n 0, [], 0), (.iload_n 2, [], 0), (.invokevirtual 138, [74, 2, 1, 2, 7], 0), (.ifCond .eq 12, [25], 0), (.aload_n 0, [], 0), (.iload_n 1, [], 0), (.iload_n 2, [], 0), (.invokevirtual 256, [132, 3, 1, 6, 7], 0), (.goto 5, [27], 0)]),
  (25, [(.bipush (-101), [], 0), (.nop, [27], 0)]),
  (27, [(.ireturn, [0], 0)])]
/-- MindReadersModel.cheapest(I)I -/
def zc_134 : List (Nat × List zE) := [(0, [(.aload_n 0, [], 0), (.iload_n 1, [], 0), (.invokevirtual 138, [74, 2, 1, 2, 7], 0), (.ifCond .ne 6, [11, 1, 1], 0), (.bipush (-101), [], 0), (.ireturn, [0], 0)]),
  (11, [(.iconst (-1), [], 0), (.istore_n 2, [], 0), (.iconst 0, [], 0), (.istore_n 3, [], 0), (.iconst 0, [], 0), (.istore 4, [], 0), (.nop, [18, 1, 1, 1, 1, 1], 0)]),
  (18, [(.iload 4, [], 0), (.aload_n 0, [], 0), (.getfield 87, [7, 5, 0], 0), (.if_icmp .ge 66, [90, 0, 0, 1], 0), (.aload_n 0, [], 0), (.iload_n 1, [], 0), (.iload 4, [], 0), (.invokevirtual 256, [132, 3, 1, 6, 7], 0), (.istore 5, [], 0), (.iload 4, [], 0), (.iload_n 1, [], 0), (.if_icmp .eq 18, [57, 1, 1, 1, 1, 1, 1], 0), (.iload_n 2, [], 0), (.iconst (-1), [], 0), (.if_icmp .eq 9, [53, 1, 1, 1, 1, 1, 1], 0), (.iload 5, [], 0), (.iload_n 3, [], 0), (.if_icmp .ge 7, [57, 1, 1, 1, 1, 1, 1], 0), (.nop, [53, 1, 1, 1, 1, 1, 1], 0)]),
  (53, [(.iconst 1, [], 0), (.goto 4, [58, 1, 1, 1, 1, 1, 1], 0)]),
  (57, [(.iconst 0, [], 0), (.nop, [58, 1, 1, 1, 1, 1, 1], 0)]),
  (58, [(.istore 6, [], 0), (.iload 6, [], 0), (.ifCond .eq 8, [70, 1, 1, 1, 1, 1, 1, 1], 0), (.iload 4, [], 0), (.goto 4, [71, 1, 1, 0, 1, 1, 1, 1], 0)]),
  (70, [(.iload_n 2, [], 0), (.nop, [71, 1, 1, 0, 1, 1, 1, 1], 0)]),
  (71, [(.istore_n 2, [], 0), (.iload 6, [], 0), (.ifCond .eq 8, [82, 1, 1, 1, 1, 1], 0), (.iload 5, [], 0), (.goto 4, [83, 1, 1, 1, 0, 1], 0)]),
  (82, [(.iload_n 3, [], 0), (.nop, [83, 1, 1, 1, 0, 1], 0)]),
  (83, [(.istore_n 3, [], 0), (.iinc 4 1, [], 0), (.goto (-69), [18, 1, 1, 1, 1, 1], 0)]),
  (90, [(.iload_n 2, [], 0), (.ireturn, [0], 0)])]
/-- MindReadersModel.luck(IIII)J -/
def zc_135 : List (Nat × List zE) := [(0, [(.iload_n 1, [], 0), (.i2l, [], 0), (.lconst 1, [], 0), (.ldc2_w 259, [], 12), (.invokestatic 75, [67, 3, 1, 6], 0), (.ifCond .eq 36, [45], 0), (.iload_n 2, [], 0), (.i2l, [], 0), (.ldc2_w 168, [], 2), (.ldc2_w 95, [], 9), (.invokestatic 75, [67, 3, 1, 6], 0), (.ifCond .eq 22, [45], 0), (.iload_n 3, [], 0), (.i2l, [], 0), (.lconst 0, [], 0), (.iload_n 1, [], 0), (.i2l, [], 0), (.invokestatic 75, [67, 3, 1, 6], 0), (.ifCond .eq 11, [45], 0), (.iload 4, [], 0), (.invokestatic 193, [108, 1, 1, 1], 0), (.ifCond .ne 7, [49, 1, 1, 1, 1, 1], 0), (.nop, [45], 0)]),
  (45, [(.ldc2_w 235, [], -102), (.lreturn, [], 0)]),
  (49, [(.iconst 0, [], 0), (.istore 5, [], 0), (.nop, [52, 1, 1, 1, 1, 1, 1], 0)]),
  (52, [(.iload 5, [], 0), (.bipush 13, [], 0), (.if_icmp .ge 26, [82, 1, 1, 1, 1, 1], 0), (.aload_n 0, [], 0), (.getfield 43, [7, 20, 2], 0), (.iload 5, [], 0), (.iload 5, [], 0), (.ifCond .ne 7, [74, 1, 1, 1, 1, 1, 1], 0), (.lconst 1, [], 0), (.goto 4, [75, 1, 1, 1, 1, 1, 1], 0)]),
  (74, [(.lconst 0, [], 0), (.nop, [75, 1, 1, 1, 1, 1, 1], 0)]),
  (75, [(.lastore, [], 0), (.iinc 5 1, [], 0), (.goto (-27), [52, 1, 1, 1, 1, 1, 1], 0)]),
  (82, [(.lconst 1, [], 0), (.lstore 5, [], 0), (.iconst 0, [], 0), (.istore 7, [], 0), (.nop, [88, 1, 1, 1, 1, 1, 1, 0, 1], 0)]),
  (88, [(.iload 7, [], 0), (.iload_n 1, [], 0), (.if_icmp .ge 68, [159, 1, 1, 0, 1, 1, 1], 0), (.lload 5, [], 0), (.iload_n 2, [], 0), (.i2l, [], 0), (.lmul, [], 0), (.lstore 5, [], 0), (.iload_n 1, [], 0), (.istore 8, [], 0), (.nop, [104, 1, 1, 1, 1, 1, 1, 0, 1, 1], 0)]),
  (104, [(.iload 8, [], 0), (.ifCond .lt 47, [153, 1, 1, 1, 1, 1, 1, 0, 1], 0), (.aload_n 0, [], 0), (.getfield 43, [7, 20, 2], 0), (.iload 8, [], 0), (.aload_n 0, [], 0), (.getfield 43, [7, 20, 2], 0), (.iload 8, [], 0), (.laload, [], 0), (.iload_n 2, [], 0), (.iconst 1, [], 0), (.isub, [], 0), (.i2l, [], 0), (.lmul, [], 0), (.iload 8, [], 0), (.ifCond .le 15, [144, 1, 1, 1, 1, 1, 1, 0, 1, 1], 0), (.aload_n 0, [], 0), (.getfield 43, [7, 20, 2], 0), (.iload 8, [], 0), (.iconst 1, [], 0), (.isub, [], 0), (.laload, [], 0), (.goto 4, [145, 1, 1, 1, 1, 1, 1, 0, 1, 1], 0)]),
  (144, [(.lconst 0, [], 0), (.nop, [145, 1, 1, 1, 1, 1, 1, 0, 1, 1], 0)]),
  (145, [(.ladd, [], 0), (.lastore, [], 0), (.iinc 8 (-1), [], 0), (.goto (-46), [104, 1, 1, 1, 1, 1, 1, 0, 1, 1], 0)]),
  (153, [(.iinc 7 1, [], 0), (.goto (-68), [88, 1, 1, 1, 1, 1, 1, 0, 1], 0)]),
  (159, [(.lconst 0, [], 0), (.lstore 7, [], 0), (.iload_n 3, [], 0), (.istore 9, [], 0), (.nop, [165, 1, 1, 0, 0, 1, 1, 0, 1, 0, 1], 0)]),
  (165, [(.iload 9, [], 0), (.iload_n 1, [], 0), (.if_icmp .gt 21, [189, 0, 0, 0, 0, 1, 1, 0, 1], 0), (.lload 7, [], 0), (.aload_n 0, [], 0), (.getfield 43, [7, 20, 2], 0), (.iload 9, [], 0), (.laload, [], 0), (.ladd, [], 0), (.lstore 7, [], 0), (.iinc 9 1, [], 0), (.goto (-21), [165, 1, 1, 0, 0, 1, 1, 0, 1, 0, 1], 0)]),
  (189, [(.lload 7, [], 0), (.lload 5, [], 0), (.iload 4, [], 0), (.invokestatic 202, [107, 3, 2, 7], 0), (.lreturn, [], 0)])]
/-- MindReadersModel.leftOf(II)I -/
def zc_136 : List (Nat × List zE) := [(0, [(.aload_n 0, [], 0), (.iload_n 1, [], 0), (.iload_n 2, [], 0), (.invokevirtual 153, [87, 3, 0, 5, 7], 0), (.iconst 0, [], 0), (.istore_n 3, [], 0), (.iconst 0, [], 0), (.istore 4, [], 0), (.nop, [11, 1, 1, 0, 1, 1], 0)]),
  (11, [(.iload 4, [], 0), (.aload_n 0, [], 0), (.getfield 16, [7, 6, 2], 0), (.iload_n 1, [], 0), (.iaload, [], 0), (.if_icmp .ge 64, [83, 0, 0, 0, 1], 0), (.iconst 1, [], 0), (.istore 5, [], 0), (.iconst 0, [], 0), (.istore 6, [], 0), (.nop, [28, 1, 1, 0, 1, 1, 1, 1], 0)]),
  (28, [(.iload 6, [], 0), (.iload 4, [], 0), (.if_icmp .ge 32, [64, 1, 1, 0, 1, 1, 1], 0), (.iload 5, [], 0), (.ifCond .eq 18, [55, 1, 1, 0, 1, 1, 0, 1], 0), (.aload_n 0, [], 0), (.iload 4, [], 0), (.iload 6, [], 0), (.invokevirtual 164, [92, 3, 1, 3, 7], 0), (.ifCond .ne 7, [55, 1, 1, 0, 1, 1, 0, 1], 0), (.iconst 1, [], 0), (.goto 4, [56, 1, 1, 0, 1, 1, 0, 1], 0)]),
  (55, [(.iconst 0, [], 0), (.nop, [56, 1, 1, 0, 1, 1, 0, 1], 0)]),
  (56, [(.istore 5, [], 0), (.iinc 6 1, [], 0), (.goto (-33), [28, 1, 1, 0, 1, 1, 1, 1], 0)]),
  (64, [(.iload_n 3, [], 0), (.iload 5, [], 0), (.ifCond .eq 7, [74, 1, 1, 0, 0, 1], 0), (.iconst 1, [], 0), (.goto 4, [75, 1, 1, 0, 0, 1], 0)]),
  (74, [(.iconst 0, [], 0), (.nop, [75, 1, 1, 0, 0, 1], 0)]),
  (75, [(.iadd, [], 0), (.istore_n 3, [], 0), (.iinc 4 1, [], 0), (.goto (-69), [11, 1, 1, 0, 1, 1], 0)]),
  (83, [(.iload_n 3, [], 0), (.ireturn, [0], 0)])]
/-- MindReadersModel.left(II)I -/
def zc_137 : List (Nat × List zE) := [(0, [(.aload_n 0, [], 0), (.iload_n 1, [], 0), (.invokevirtual 138, [74, 2, 1, 2, 7], 0), (.ifCond .ne 6, [11, 1, 1, 1], 0), (.bipush (-101), [], 0), (.ireturn, [0], 0)]),
  (11, [(.iload_n 2, [], 0), (.i2l, [], 0), (.lconst 0, [], 0), (.ldc2_w 60, [], 255), (.invokestatic 75, [67, 3, 1, 6], 0), (.ifCond .eq 12, [32], 0), (.aload_n 0, [], 0), (.iload_n 1, [], 0), (.iload_n 2, [], 0), (.invokevirtual 261, [136, 3, 1, 7, 7], 0), (.goto 5, [34], 0)]),
  (32, [(.bipush (-102), [], 0), (.nop, [34], 0)]),
  (34, [(.ireturn, [0], 0)])]
/-- MindReadersModel.stopOf(I)I -/
def zc_138 : List (Nat × List zE) := [(0, [(.sipush 255, [], 0), (.istore_n 2, [], 0), (.bipush 8, [], 0), (.istore_n 3, [], 0), (.iconst 0, [], 0), (.istore 4, [], 0), (.nop, [10, 1, 1, 1, 1, 1], 0)]),
  (10, [(.iload 4, [], 0), (.sipush 256, [], 0), (.if_icmp .ge 63, [78, 0, 0, 1], 0), (.iconst 0, [], 0), (.istore 5, [], 0), (.iconst 0, [], 0), (.istore 6, [], 0), (.nop, [24, 1, 1, 1, 1, 1, 1, 1], 0)]),
  (24, [(.iload 6, [], 0), (.bipush 8, [], 0), (.if_icmp .ge 21, [49, 1, 1, 1, 1, 1, 1], 0), (.iload 5, [], 0), (.iload 4, [], 0), (.iload 6, [], 0), (.ishr, [], 0), (.iconst 1, [], 0), (.iand, [], 0), (.iadd, [], 0), (.istore 5, [], 0), (.iinc 6 1, [], 0), (.goto (-22), [24, 1, 1, 1, 1, 1, 1, 1], 0)]),
  (49, [(.iload 5, [], 0), (.iload_n 3, [], 0), (.if_icmp .ge 20, [72, 1, 1, 1, 1, 1], 0), (.aload_n 0, [], 0), (.iload_n 1, [], 0), (.iload 4, [], 0), (.invokevirtual 261, [136, 3, 1, 7, 7], 0), (.iconst 2, [], 0), (.if_icmp .ge 9, [72, 1, 1, 1, 1, 1], 0), (.iload 4, [], 0), (.istore_n 2, [], 0), (.iload 5, [], 0), (.istore_n 3, [], 0), (.nop, [72, 1, 1, 1, 1, 1], 0)]),
  (72, [(.iinc 4 1, [], 0), (.goto (-65), [10, 1, 1, 1, 1, 1], 0)]),
  (78, [(.iload_n 2, [], 0), (.ireturn, [0], 0)])]
/-- MindReadersModel.stop(I)I -/
def zc_139 : List (Nat × List zE) := [(0, [(.aload_n 0, [], 0), (.iload_n 1, [], 0), (.invokevirtual 138, [74, 2, 1, 2, 7], 0), (.ifCond .eq 11, [16], 0), (.aload_n 0, [], 0), (.iload_n 1, [], 0), (.invokevirtual 264, [138, 2, 1, 7, 7], 0), (.goto 5, [18], 0)]),
  (16, [(.bipush (-101), [], 0), (.nop, [18], 0)]),
  (18, [(.ireturn, [0], 0)])]
/-- MindReadersModel.image()I -/
def zc_140 : List (Nat × List zE) := [(0, [(.iconst 0, [], 0), (.istore_n 1, [], 0), (.nop, [2, 1, 1], 0)]),
  (2, [(.iload_n 1, [], 0), (.bipush 8, [], 0), (.if_icmp .ge 21, [26, 1], 0), (.aload_n 0, [], 0), (.getfield 50, [7, 24, 2], 0), (.iload_n 1, [], 0), (.aload_n 0, [], 0), (.getfield 25, [7, 11, 2], 0), (.iload_n 1, [], 0), (.iaload, [], 0), (.iastore, [], 0), (.iinc 1 1, [], 0), (.goto (-21), [2, 1, 1], 0)]),
  (26, [(.iconst 0, [], 0), (.istore_n 1, [], 0), (.nop, [28, 1, 1], 0)]),
  (28, [(.iload_n 1, [], 0), (.bipush 100, [], 0), (.if_icmp .ge 21, [52, 1], 0), (.aload_n 0, [], 0), (.getfield 53, [7, 25, 2], 0), (.iload_n 1, [], 0), (.aload_n 0, [], 0), (.getfield 40, [7, 19, 2], 0), (.iload_n 1, [], 0), (.iaload, [], 0), (.iastore, [], 0), (.iinc 1 1, [], 0), (.goto (-21), [28, 1, 1], 0)]),
  (52, [(.aload_n 0, [], 0), (.aload_n 0, [], 0), (.getfield 242, [7, 18, 0], 0), (.putfield 267, [7, 23, 0], 0), (.aload_n 0, [], 0), (.aload_n 0, [], 0), (.getfield 104, [7, 10, 0], 0), (.putfield 56, [7, 22, 0], 0), (.aload_n 0, [], 0), (.getfield 104, [7, 10, 0], 0), (.ireturn, [0], 0)])]
/-- MindReadersModel.restore()I -/
def zc_141 : List (Nat × List zE) := [(0, [(.aload_n 0, [], 0), (.getfield 56, [7, 22, 0], 0), (.iconst (-1), [], 0), (.if_icmp .ne 6, [11, 1], 0), (.bipush (-103), [], 0), (.ireturn, [0], 0)]),
  (11, [(.iconst 0, [], 0), (.istore_n 1, [], 0), (.nop, [13, 1, 1], 0)]),
  (13, [(.iload_n 1, [], 0), (.aload_n 0, [], 0), (.getfield 56, [7, 22, 0], 0), (.if_icmp .ge 21, [39, 1], 0), (.aload_n 0, [], 0), (.getfield 25, [7, 11, 2], 0), (.iload_n 1, [], 0), (.aload_n 0, [], 0), (.getfield 50, [7, 24, 2], 0), (.iload_n 1, [], 0), (.iaload, [], 0), (.iastore, [], 0), (.iinc 1 1, [], 0), (.goto (-23), [13, 1, 1], 0)]),
  (39, [(.iconst 0, [], 0), (.istore_n 1, [], 0), (.nop, [41, 1, 1], 0)]),
  (41, [(.iload_n 1, [], 0), (.bipush 100, [], 0), (.if_icmp .ge 21, [65, 1], 0), (.aload_n 0, [], 0), (.getfield 40, [7, 19, 2], 0), (.iload_n 1, [], 0), (.aload_n 0, [], 0), (.getfield 53, [7, 25, 2], 0), (.iload_n 1, [], 0), (.iaload, [], 0), (.iastore, [], 0), (.iinc 1 1, [], 0), (.goto (-21), [41, 1, 1], 0)]),
  (65, [(.aload_n 0, [], 0), (.aload_n 0, [], 0), (.getfield 267, [7, 23, 0], 0), (.putfield 242, [7, 18, 0], 0), (.aload_n 0, [], 0), (.getfield 104, [7, 10, 0], 0), (.ireturn, [0], 0)])]
/-- MindReadersModel.countOf(I)I -/
def zc_142 : List (Nat × List zE) := [(0, [(.iload_n 1, [], 0), (.tableswitch 73 0 5 #[39, 44, 49, 54, 59, 64], [1, 74, 1, 40, 45, 50, 55, 60, 65], 39)]),
  (40, [(.aload_n 0, [], 0), (.getfield 92, [7, 8, 0], 0), (.ireturn, [0], 0)]),
  (45, [(.aload_n 0, [], 0), (.getfield 104, [7, 10, 0], 0), (.ireturn, [0], 0)]),
  (50, [(.aload_n 0, [], 0), (.getfield 87, [7, 5, 0], 0), (.ireturn, [0], 0)]),
  (55, [(.aload_n 0, [], 0), (.getfield 242, [7, 18, 0], 0), (.ireturn, [0], 0)]),
  (60, [(.aload_n 0, [], 0), (.getfield 62, [7, 1, 0], 0), (.ireturn, [0], 0)]),
  (65, [(.aload_n 0, [], 0), (.aload_n 0, [], 0), (.getfield 104, [7, 10, 0], 0), (.invokevirtual 199, [109, 2, 1, 4, 7], 0), (.ireturn, [0], 0)]),
  (74, [(.bipush (-102), [], 0), (.ireturn, [0], 0)])]
/-- MindReadersModel.count(I)I -/
def zc_143 : List (Nat × List zE) := [(0, [(.aload_n 0, [], 0), (.iload_n 1, [], 0), (.invokevirtual 270, [142, 2, 1, 2, 7], 0), (.ireturn, [0], 0)])]
/-- MindReadersModel.say(J)V -/
def zc_144 : List (Nat × List zE) := [(0, [(.aload_n 0, [], 0), (.ldc2_w 273, [], 31), (.aload_n 0, [], 0), (.getfield 275, [7, 26, 1], 0), (.lmul, [], 0), (.lload_n 1, [], 0), (.ladd, [], 0), (.putfield 275, [7, 26, 1], 0), (.return_, [], 0)])]
/-- MindReadersModel.sayCode(I)V -/
def zc_145 : List (Nat × List zE) := [(0, [(.iconst 0, [], 0), (.istore_n 2, [], 0), (.nop, [2, 1, 1, 1], 0)]),
  (2, [(.iload_n 2, [], 0), (.aload_n 0, [], 0), (.getfield 16, [7, 6, 2], 0), (.iload_n 1, [], 0), (.iaload, [], 0), (.if_icmp .ge 61, [70, 1, 1], 0), (.iconst 0, [], 0), (.istore_n 3, [], 0), (.nop, [14, 1, 1, 1, 1], 0)]),
  (14, [(.iload_n 3, [], 0), (.bipush 6, [], 0), (.if_icmp .ge 21, [38, 1, 1, 1], 0), (.aload_n 0, [], 0), (.aload_n 0, [], 0), (.iload_n 1, [], 0), (.iload_n 2, [], 0), (.iload_n 3, [], 0), (.invokevirtual 141, [89, 4, 1, 5, 7], 0), (.i2l, [], 0), (.invokevirtual 279, [144, 2, 0, 3, 7], 0), (.iinc 3 1, [], 0), (.goto (-21), [14, 1, 1, 1, 1], 0)]),
  (38, [(.aload_n 0, [], 0), (.aload_n 0, [], 0), (.iload_n 1, [], 0), (.iload_n 2, [], 0), (.bipush 10, [], 0), (.invokevirtual 141, [89, 4, 1, 5, 7], 0), (.i2l, [], 0), (.invokevirtual 279, [144, 2, 0, 3, 7], 0), (.aload_n 0, [], 0), (.aload_n 0, [], 0), (.iload_n 1, [], 0), (.iload_n 2, [], 0), (.bipush 30, [], 0), (.invokevirtual 141, [89, 4, 1, 5, 7], 0), (.i2l, [], 0), (.invokevirtual 279, [144, 2, 0, 3, 7], 0), (.iinc 2 1, [], 0), (.goto (-65), [2, 1, 1, 1], 0)]),
  (70, [(.aload_n 0, [], 0), (.aload_n 0, [], 0), (.iload_n 1, [], 0), (.invokevirtual 170, [97, 2, 1, 4, 7], 0), (.iconst (-1), [], 0), (.if_icmp .ne 7, [84, 1, 1], 0), (.lconst 1, [], 0), (.goto 4, [85, 1, 1], 0)]),
  (84, [(.lconst 0, [], 0), (.nop, [85, 1, 1], 0)]),
  (85, [(.invokevirtual 279, [144, 2, 0, 3, 7], 0), (.aload_n 0, [], 0), (.aload_n 0, [], 0), (.iload_n 1, [], 0), (.invokevirtual 186, [103, 2, 1, 10, 7], 0), (.i2l, [], 0), (.invokevirtual 279, [144, 2, 0, 3, 7], 0), (.aload_n 0, [], 0), (.aload_n 0, [], 0), (.iload_n 1, [], 0), (.invokevirtual 209, [111, 2, 1, 6, 7], 0), (.i2l, [], 0), (.invokevirtual 279, [144, 2, 0, 3, 7], 0), (.aload_n 0, [], 0), (.aload_n 0, [], 0), (.iload_n 1, [], 0), (.invokevirtual 230, [119, 2, 1, 7, 7], 0), (.i2l, [], 0), (.invokevirtual 279, [144, 2, 0, 3, 7], 0), (.aload_n 0, [], 0), (.aload_n 0, [], 0), (.iload_n 1, [], 0), (.invokevirtual 264, [138, 2, 1, 7, 7], 0), (.i2l, [], 0), (.invokevirtual 279, [144, 2, 0, 3, 7], 0), (.return_, [], 0)])]
/-- MindReadersModel.digest()J -/
def zc_146 : List (Nat × List zE) := [(0, [(.aload_n 0, [], 0), (.ldc2_w 283, [], 479), (.putfield 275, [7, 26, 1], 0), (.iconst 0, [], 0), (.istore_n 1, [], 0), (.nop, [9, 1, 1], 0)]),
  (9, [(.iload_n 1, [], 0), (.iconst 4, [], 0), (.aload_n 0, [], 0), (.getfield 92, [7, 8, 0], 0), (.imul, [], 0), (.if_icmp .ge 20, [36, 1], 0), (.aload_n 0, [], 0), (.aload_n 0, [], 0), (.getfield 22, [7, 9, 2], 0), (.iload_n 1, [], 0), (.iaload, [], 0), (.i2l, [], 0), (.invokevirtual 279, [144, 2, 0, 3, 7], 0), (.iinc 1 1, [], 0), (.goto (-24), [9, 1, 1], 0)]),
  (36, [(.iconst 0, [], 0), (.istore_n 1, [], 0), (.nop, [38, 1, 1], 0)]),
  (38, [(.iload_n 1, [], 0), (.aload_n 0, [], 0), (.getfield 104, [7, 10, 0], 0), (.if_icmp .ge 20, [63, 1], 0), (.aload_n 0, [], 0), (.aload_n 0, [], 0), (.getfield 25, [7, 11, 2], 0), (.iload_n 1, [], 0), (.iaload, [], 0), (.i2l, [], 0), (.invokevirtual 279, [144, 2, 0, 3, 7], 0), (.iinc 1 1, [], 0), (.goto (-22), [38, 1, 1], 0)]),
  (63, [(.iconst 0, [], 0), (.istore_n 1, [], 0), (.nop, [65, 1, 1], 0)]),
  (65, [(.iload_n 1, [], 0), (.aload_n 0, [], 0), (.getfield 87, [7, 5, 0], 0), (.if_icmp .ge 14, [84, 1], 0), (.aload_n 0, [], 0), (.iload_n 1, [], 0), (.invokevirtual 285, [145, 2, 0, 4, 7], 0), (.iinc 1 1, [], 0), (.goto (-16), [65, 1, 1], 0)]),
  (84, [(.iconst 0, [], 0), (.istore_n 1, [], 0), (.nop, [86, 1, 1], 0)]),
  (86, [(.iload_n 1, [], 0), (.aload_n 0, [], 0), (.getfield 242, [7, 18, 0], 0), (.if_icmp .ge 50, [141, 1], 0), (.iconst 0, [], 0), (.istore_n 2, [], 0), (.nop, [96, 1, 1, 1], 0)]),
  (96, [(.iload_n 2, [], 0), (.iconst 2, [], 0), (.aload_n 0, [], 0), (.getfield 40, [7, 19, 2], 0), (.bipush 10, [], 0), (.iload_n 1, [], 0), (.imul, [], 0), (.iconst 1, [], 0), (.iadd, [], 0), (.iaload, [], 0), (.iadd, [], 0), (.if_icmp .ge 25, [135, 1, 1], 0), (.aload_n 0, [], 0), (.aload_n 0, [], 0), (.getfield 40, [7, 19, 2], 0), (.bipush 10, [], 0), (.iload_n 1, [], 0), (.imul, [], 0), (.iload_n 2, [], 0), (.iadd, [], 0), (.iaload, [], 0), (.i2l, [], 0), (.invokevirtual 279, [144, 2, 0, 3, 7], 0), (.iinc 2 1, [], 0), (.goto (-36), [96, 1, 1, 1], 0)]),
  (135, [(.iinc 1 1, [], 0), (.goto (-52), [86, 1, 1], 0)]),
  (141, [(.aload_n 0, [], 0), (.aload_n 0, [], 0), (.invokevirtual 248, [127, 1, 1, 5, 7], 0), (.i2l, [], 0), (.invokevirtual 279, [144, 2, 0, 3, 7], 0), (.iconst 0, [], 0), (.istore_n 1, [], 0), (.nop, [152, 1, 1], 0)]),
  (152, [(.iload_n 1, [], 0), (.aload_n 0, [], 0), (.getfield 62, [7, 1, 0], 0), (.if_icmp .ge 20, [177, 1], 0), (.aload_n 0, [], 0), (.aload_n 0, [], 0), (.getfield 7, [7, 0, 2], 0), (.iload_n 1, [], 0), (.iaload, [], 0), (.i2l, [], 0), (.invokevirtual 279, [144, 2, 0, 3, 7], 0), (.iinc 1 1, [], 0), (.goto (-22), [152, 1, 1], 0)]),
  (177, [(.iconst 0, [], 0), (.istore_n 1, [], 0), (.nop, [179, 1, 1], 0)]),
  (179, [(.iload_n 1, [], 0), (.bipush 6, [], 0), (.if_icmp .ge 19, [201, 1], 0), (.aload_n 0, [], 0), (.aload_n 0, [], 0), (.iload_n 1, [], 0), (.invokevirtual 270, [142, 2, 1, 2, 7], 0), (.i2l, [], 0), (.invokevirtual 279, [144, 2, 0, 3, 7], 0), (.iinc 1 1, [], 0), (.goto (-19), [179, 1, 1], 0)]),
  (201, [(.aload_n 0, [], 0), (.getfield 275, [7, 26, 1], 0), (.lreturn, [], 0)])]
/-- MindReaders$Code.<init>()V -/
def zc_147 : List (Nat × List zE) := [(0, [(.aload_n 0, [], 0), (.invokespecial 3, [], 0), (.aload_n 0, [], 0), (.new 9, [4, 2, 2], 0), (.dup, [], 0), (.bipush 8, [], 0), (.iconst 5, [], 0), (.invokespecial 11, [185, 3, 0, 4, 4], 0), (.putfield 14, [0, 0, 2], 0), (.aload_n 0, [], 0), (.new 9, [4, 2, 2], 0), (.dup, [], 0), (.bipush 8, [], 0), (.bipush 10, [], 0), (.invokespecial 11, [185, 3, 0, 4, 4], 0), (.putfield 20, [0, 1, 2], 0), (.return_, [], 0)])]
/-- MindReaders$Code.size()I -/
def zc_148 : List (Nat × List zE) := [(0, [(.aload_n 0, [], 0), (.getfield 23, [0, 2, 0], 0), (.ireturn, [0], 0)])]
/-- MindReaders$Code.spoken(I)LMindReaders$Row; -/
def zc_149 : List (Nat × List zE) := [(0, [(.aload_n 0, [], 0), (.getfield 14, [0, 0, 2], 0), (.iload_n 1, [], 0), (.invokevirtual 27, [186, 2, 3, 3, 4], 0), (.areturn, [], 0)])]
/-- MindReaders$Code.plain(I)LMindReaders$Row; -/
def zc_150 : List (Nat × List zE) := [(0, [(.aload_n 0, [], 0), (.getfield 20, [0, 1, 2], 0), (.iload_n 1, [], 0), (.invokevirtual 27, [186, 2, 3, 3, 4], 0), (.areturn, [], 0)])]
/-- MindReaders$Code.readFrom(LMindReaders$Row;)V -/
def zc_151 : List (Nat × List zE) := [(0, [(.aload_n 0, [], 0), (.iconst 1, [], 0), (.putfield 23, [0, 2, 0], 0), (.iconst 0, [], 0), (.istore_n 2, [], 0), (.nop, [7, 1, 1, 1], 0)]),
  (7, [(.iload_n 2, [], 0), (.aload_n 1, [], 0), (.invokevirtual 31, [171, 1, 1, 1, 3], 0), (.if_icmp .ge 50, [62], 0), (.aload_n 1, [], 0), (.iload_n 2, [], 0), (.invokevirtual 36, [172, 2, 1, 2, 3], 0), (.invokestatic 40, [42, 1, 1, 1], 0), (.istore_n 3, [], 0), (.iload_n 3, [], 0), (.iconst (-1), [], 0), (.if_icmp .ne 16, [42, 1, 1, 1, 1], 0), (.aload_n 0, [], 0), (.dup, [], 0), (.getfield 23, [0, 2, 0], 0), (.iconst 1, [], 0), (.iadd, [], 0), (.putfield 23, [0, 2, 0], 0), (.goto 17, [56, 1, 1, 1], 0)]),
  (42, [(.aload_n 0, [], 0), (.aload_n 0, [], 0), (.getfield 23, [0, 2, 0], 0), (.iconst 1, [], 0), (.isub, [], 0), (.invokevirtual 43, [149, 2, 3, 2, 0], 0), (.iload_n 3, [], 0), (.invokevirtual 45, [174, 2, 0, 2, 3], 0), (.nop, [56, 1, 1, 1], 0)]),
  (56, [(.iinc 2 1, [], 0), (.goto (-52), [7, 1, 1, 1], 0)]),
  (62, [(.return_, [], 0)])]
/-- MindReaders$Code.makePlain(LMindReaders$Signals;)V -/
def zc_152 : List (Nat × List zE) := [(0, [(.iconst 0, [], 0), (.istore_n 2, [], 0), (.nop, [2, 1, 1, 1], 0)]),
  (2, [(.iload_n 2, [], 0), (.aload_n 0, [], 0), (.getfield 23, [0, 2, 0], 0), (.if_icmp .ge 24, [31], 0), (.aload_n 1, [], 0), (.aload_n 0, [], 0), (.iload_n 2, [], 0), (.invokevirtual 43, [149, 2, 3, 2, 0], 0), (.iconst 0, [], 0), (.aload_n 0, [], 0), (.iload_n 2, [], 0), (.invokevirtual 49, [150, 2, 3, 2, 0], 0), (.invokevirtual 51, [198, 4, 0, 7, 5], 0), (.iinc 2 1, [], 0), (.goto (-26), [2, 1, 1, 1], 0)]),
  (31, [(.return_, [], 0)])]
/-- MindReaders$Code.meaningOf(LMindReaders$Row;)I -/
def zc_153 : List (Nat × List zE) := [(0, [(.iconst 0, [], 0), (.istore_n 2, [], 0), (.nop, [2, 1, 1, 1], 0)]),
  (2, [(.iload_n 2, [], 0), (.aload_n 0, [], 0), (.getfield 23, [0, 2, 0], 0), (.if_icmp .ge 23, [30], 0), (.aload_n 0, [], 0), (.iload_n 2, [], 0), (.invokevirtual 49, [150, 2, 3, 2, 0], 0), (.aload_n 1, [], 0), (.invokevirtual 57, [178, 2, 1, 2, 3], 0), (.ifCond .eq 5, [24, 1, 1, 1], 0), (.iload_n 2, [], 0), (.ireturn, [0], 0)]),
  (24, [(.iinc 2 1, [], 0), (.goto (-25), [2, 1, 1, 1], 0)]),
  (30, [(.iconst (-1), [], 0), (.ireturn, [0], 0)])]
/-- MindReaders$Code.firstAlike()I -/
def zc_154 : List (Nat × List zE) := [(0, [(.iconst 0, [], 0), (.istore_n 1, [], 0), (.nop, [2, 1, 1], 0)]),
  (2, [(.iload_n 1, [], 0), (.aload_n 0, [], 0), (.getfield 23, [0, 2, 0], 0), (.if_icmp .ge 50, [57], 0), (.iload_n 1, [], 0), (.iconst 1, [], 0), (.iadd, [], 0), (.istore_n 2, [], 0), (.nop, [14, 1, 1, 1], 0)]),
  (14, [(.iload_n 2, [], 0), (.aload_n 0, [], 0), (.getfield 23, [0, 2, 0], 0), (.if_icmp .ge 32, [51, 1, 1], 0), (.aload_n 0, [], 0), (.iload_n 1, [], 0), (.invokevirtual 49, [150, 2, 3, 2, 0], 0), (.aload_n 0, [], 0), (.iload_n 2, [], 0), (.invokevirtual 49, [150, 2, 3, 2, 0], 0), (.invokevirtual 57, [178, 2, 1, 2, 3], 0), (.ifCond .eq 10, [45, 1, 1, 1], 0), (.iload_n 1, [], 0), (.bipush 8, [], 0), (.imul, [], 0), (.iload_n 2, [], 0), (.iadd, [], 0), (.ireturn, [0], 0)]),
  (45, [(.iinc 2 1, [], 0), (.goto (-34), [14, 1, 1, 1], 0)]),
  (51, [(.iinc 1 1, [], 0), (.goto (-52), [2, 1, 1], 0)]),
  (57, [(.iconst (-1), [], 0), (.ireturn, [0], 0)])]
/-- MindReaders$Code.firstStart()I -/
def zc_155 : List (Nat × List zE) := [(0, [(.iconst 0, [], 0), (.istore_n 1, [], 0), (.nop, [2, 1, 1], 0)]),
  (2, [(.iload_n 1, [], 0), (.aload_n 0, [], 0), (.getfield 23, [0, 2, 0], 0), (.if_icmp .ge 67, [74], 0), (.iconst 0, [], 0), (.istore_n 2, [], 0), (.nop, [12, 1, 1, 1], 0)]),
  (12, [(.iload_n 2, [], 0), (.aload_n 0, [], 0), (.getfield 23, [0, 2, 0], 0), (.if_icmp .ge 51, [68, 1, 1], 0), (.aload_n 0, [], 0), (.iload_n 1, [], 0), (.invokevirtual 49, [150, 2, 3, 2, 0], 0), (.invokevirtual 31, [171, 1, 1, 1, 3], 0), (.aload_n 0, [], 0), (.iload_n 2, [], 0), (.invokevirtual 49, [150, 2, 3, 2, 0], 0), (.invokevirtual 31, [171, 1, 1, 1, 3], 0), (.if_icmp .ge 26, [62, 1, 1, 1], 0), (.aload_n 0, [], 0), (.iload_n 1, [], 0), (.invokevirtual 49, [150, 2, 3, 2, 0], 0), (.aload_n 0, [], 0), (.iload_n 2, [], 0), (.invokevirtual 49, [150, 2, 3, 2, 0], 0), (.invokevirtual 61, [179, 2, 1, 3, 3], 0), (.ifCond .eq 10, [62, 1, 1, 1], 0), (.iload_n 1, [], 0), (.bipush 8, [], 0), (.imul, [], 0), (.iload_n 2, [], 0), (.iadd, [], 0), (.ireturn, [0], 0)]),
  (62, [(.iinc 2 1, [], 0), (.goto (-53), [12, 1, 1, 1], 0)]),
  (68, [(.iinc 1 1, [], 0), (.goto (-69), [2, 1, 1], 0)]),
  (74, [(.iconst (-1), [], 0), (.ireturn, [0], 0)])]
/-- MindReaders$Code.leastApart()I -/
def zc_156 : List (Nat × List zE) := [(0, [(.iconst (-1), [], 0), (.istore_n 1, [], 0), (.iconst 0, [], 0), (.istore_n 2, [], 0), (.nop, [4, 1, 1, 1], 0)]),
  (4, [(.iload_n 2, [], 0), (.aload_n 0, [], 0), (.getfield 23, [0, 2, 0], 0), (.if_icmp .ge 72, [81, 0, 1], 0), (.aload_n 0, [], 0), (.iload_n 2, [], 0), (.invokevirtual 49, [150, 2, 3, 2, 0], 0), (.invokevirtual 31, [171, 1, 1, 1, 3], 0), (.aload_n 0, [], 0), (.iconst 0, [], 0), (.invokevirtual 49, [150, 2, 3, 2, 0], 0), (.invokevirtual 31, [171, 1, 1, 1, 3], 0), (.if_icmp .eq 5, [33, 1, 1, 1], 0), (.iconst (-1), [], 0), (.ireturn, [0], 0)]),
  (33, [(.iconst 0, [], 0), (.istore_n 3, [], 0), (.nop, [35, 1, 1, 1, 1], 0)]),
  (35, [(.iload_n 3, [], 0), (.iload_n 2, [], 0), (.if_icmp .ge 38, [75, 1, 1, 1], 0), (.aload_n 0, [], 0), (.iload_n 2, [], 0), (.invokevirtual 49, [150, 2, 3, 2, 0], 0), (.aload_n 0, [], 0), (.iload_n 3, [], 0), (.invokevirtual 49, [150, 2, 3, 2, 0], 0), (.invokevirtual 64, [180, 2, 1, 4, 3], 0), (.istore 4, [], 0), (.iload_n 1, [], 0), (.iconst (-1), [], 0), (.if_icmp .eq 9, [66, 1, 0, 1, 1, 1], 0), (.iload 4, [], 0), (.iload_n 1, [], 0), (.if_icmp .ge 6, [69, 1, 1, 1, 1], 0), (.nop, [66, 1, 0, 1, 1, 1], 0)]),
  (66, [(.iload 4, [], 0), (.istore_n 1, [], 0), (.nop, [69, 1, 1, 1, 1], 0)]),
  (69, [(.iinc 3 1, [], 0), (.goto (-37), [35, 1, 1, 1, 1], 0)]),
  (75, [(.iinc 2 1, [], 0), (.goto (-74), [4, 1, 1, 1], 0)]),
  (81, [(.iload_n 1, [], 0), (.ireturn, [0], 0)])]
/-- MindReaders$Code.nearestTo(LMindReaders$Row;)I -/
def zc_157 : List (Nat × List zE) := [(0, [(.iconst (-1), [], 0), (.istore_n 2, [], 0), (.iconst 0, [], 0), (.istore_n 3, [], 0), (.iconst 0, [], 0), (.istore 4, [], 0), (.nop, [7, 1, 1, 1, 1, 1], 0)]),
  (7, [(.iload 4, [], 0), (.aload_n 0, [], 0), (.getfield 23, [0, 2, 0], 0), (.if_icmp .ge 57, [70, 0, 0, 1], 0), (.aload_n 0, [], 0), (.iload 4, [], 0), (.invokevirtual 49, [150, 2, 3, 2, 0], 0), (.invokevirtual 31, [171, 1, 1, 1, 3], 0), (.aload_n 1, [], 0), (.invokevirtual 31, [171, 1, 1, 1, 3], 0), (.if_icmp .eq 6, [35, 1, 1, 1, 1, 1], 0), (.goto 32, [64, 1, 1, 1, 1, 1], 0)]),
  (35, [(.aload_n 0, [], 0), (.iload 4, [], 0), (.invokevirtual 49, [150, 2, 3, 2, 0], 0), (.aload_n 1, [], 0), (.invokevirtual 64, [180, 2, 1, 4, 3], 0), (.istore 5, [], 0), (.iload_n 2, [], 0), (.iconst (-1), [], 0), (.if_icmp .eq 9, [58, 1, 1, 0, 0, 1, 1], 0), (.iload 5, [], 0), (.iload_n 3, [], 0), (.if_icmp .ge 9, [64, 1, 1, 1, 1, 1], 0), (.nop, [58, 1, 1, 0, 0, 1, 1], 0)]),
  (58, [(.iload 4, [], 0), (.istore_n 2, [], 0), (.iload 5, [], 0), (.istore_n 3, [], 0), (.nop, [64, 1, 1, 1, 1, 1], 0)]),
  (64, [(.iinc 4 1, [], 0), (.goto (-60), [7, 1, 1, 1, 1, 1], 0)]),
  (70, [(.iload_n 2, [], 0), (.ireturn, [0], 0)])]
/-- MindReaders$Notes.<init>()V -/
def zc_158 : List (Nat × List zE) := [(0, [(.aload_n 0, [], 0), (.invokespecial 3, [], 0), (.aload_n 0, [], 0), (.new 9, [3, 2, 0], 0), (.dup, [], 0), (.bipush 10, [], 0), (.invokespecial 11, [170, 2, 0, 2, 3], 0), (.putfield 14, [1, 0, 2], 0), (.aload_n 0, [], 0), (.new 20, [4, 2, 2], 0), (.dup, [], 0), (.bipush 10, [], 0), (.bipush 8, [], 0), (.invokespecial 22, [185, 3, 0, 4, 4], 0), (.putfield 25, [1, 1, 2], 0), (.return_, [], 0)])]
/-- MindReaders$Notes.size()I -/
def zc_159 : List (Nat × List zE) := [(0, [(.aload_n 0, [], 0), (.getfield 14, [1, 0, 2], 0), (.invokevirtual 29, [171, 1, 1, 1, 3], 0), (.ireturn, [0], 0)])]
/-- MindReaders$Notes.thingOf(I)I -/
def zc_160 : List (Nat × List zE) := [(0, [(.aload_n 0, [], 0), (.getfield 14, [1, 0, 2], 0), (.iload_n 1, [], 0), (.invokevirtual 33, [172, 2, 1, 2, 3], 0), (.ireturn, [0], 0)])]
/-- MindReaders$Notes.rowOf(I)LMindReaders$Row; -/
def zc_161 : List (Nat × List zE) := [(0, [(.aload_n 0, [], 0), (.getfield 25, [1, 1, 2], 0), (.iload_n 1, [], 0), (.invokevirtual 37, [186, 2, 3, 3, 4], 0), (.areturn, [], 0)])]
/-- MindReaders$Notes.add(ILMindReaders$Row;)V -/
def zc_162 : List (Nat × List zE) := [(0, [(.aload_n 0, [], 0), (.getfield 25, [1, 1, 2], 0), (.aload_n 0, [], 0), (.getfield 14, [1, 0, 2], 0), (.invokevirtual 29, [171, 1, 1, 1, 3], 0), (.invokevirtual 37, [186, 2, 3, 3, 4], 0), (.aload_n 2, [], 0), (.invokevirtual 41, [177, 2, 0, 3, 3], 0), (.aload_n 0, [], 0), (.getfield 14, [1, 0, 2], 0), (.iload_n 1, [], 0), (.invokevirtual 45, [174, 2, 0, 2, 3], 0), (.return_, [], 0)])]
/-- MindReaders$Notes.wipe()V -/
def zc_163 : List (Nat × List zE) := [(0, [(.aload_n 0, [], 0), (.getfield 14, [1, 0, 2], 0), (.invokevirtual 48, [176, 1, 0, 1, 3], 0), (.return_, [], 0)])]
/-- MindReaders$Notes.copyOf(LMindReaders$Notes;)V -/
def zc_164 : List (Nat × List zE) := [(0, [(.aload_n 0, [], 0), (.invokevirtual 51, [163, 1, 0, 1, 1], 0), (.iconst 0, [], 0), (.istore_n 2, [], 0), (.nop, [6, 1, 1, 1], 0)]),
  (6, [(.iload_n 2, [], 0), (.aload_n 1, [], 0), (.invokevirtual 52, [159, 1, 1, 1, 1], 0), (.if_icmp .ge 23, [34], 0), (.aload_n 0, [], 0), (.aload_n 1, [], 0), (.iload_n 2, [], 0), (.invokevirtual 53, [160, 2, 1, 2, 1], 0), (.aload_n 1, [], 0), (.iload_n 2, [], 0), (.invokevirtual 56, [161, 2, 3, 2, 1], 0), (.invokevirtual 59, [162, 3, 0, 3, 1], 0), (.iinc 2 1, [], 0), (.goto (-25), [6, 1, 1, 1], 0)]),
  (34, [(.return_, [], 0)])]
/-- MindReaders$Readings.<init>()V -/
def zc_165 : List (Nat × List zE) := [(0, [(.aload_n 0, [], 0), (.invokespecial 3, [], 0), (.aload_n 0, [], 0), (.new 9, [3, 2, 0], 0), (.dup, [], 0), (.bipush 80, [], 0), (.invokespecial 13, [170, 2, 0, 2, 3], 0), (.putfield 16, [2, 0, 2], 0), (.return_, [], 0)])]
/-- MindReaders$Readings.leastTwice(LMindReaders$Code;)I -/
def zc_166 : List (Nat × List zE) := [(0, [(.aload_n 0, [], 0), (.ldc 20, [], 1000000), (.putfield 21, [2, 1, 0], 0), (.aload_n 0, [], 0), (.getfield 16, [2, 0, 2], 0), (.invokevirtual 25, [176, 1, 0, 1, 3], 0), (.iconst 0, [], 0), (.istore_n 2, [], 0), (.nop, [15, 1, 1, 1], 0)]),
  (15, [(.iload_n 2, [], 0), (.bipush 80, [], 0), (.if_icmp .ge 18, [36, 1, 1], 0), (.aload_n 0, [], 0), (.getfield 16, [2, 0, 2], 0), (.ldc 20, [], 1000000), (.invokevirtual 28, [174, 2, 0, 2, 3], 0), (.iinc 2 1, [], 0), (.goto (-18), [15, 1, 1, 1], 0)]),
  (36, [(.iconst 0, [], 0), (.istore_n 2, [], 0), (.nop, [38, 1, 1, 1], 0)]),
  (38, [(.iload_n 2, [], 0), (.aload_n 1, [], 0), (.invokevirtual 31, [148, 1, 1, 1, 0], 0), (.if_icmp .ge 44, [87, 1, 1], 0), (.iload_n 2, [], 0), (.iconst 1, [], 0), (.iadd, [], 0), (.istore_n 3, [], 0), (.nop, [50, 1, 1, 1, 1], 0)]),
  (50, [(.iload_n 3, [], 0), (.aload_n 1, [], 0), (.invokevirtual 31, [148, 1, 1, 1, 0], 0), (.if_icmp .ge 26, [81, 1, 1, 1], 0), (.aload_n 0, [], 0), (.aload_n 1, [], 0), (.iload_n 2, [], 0), (.iconst 0, [], 0), (.iload_n 3, [], 0), (.aload_n 1, [], 0), (.iload_n 2, [], 0), (.invokevirtual 37, [150, 2, 3, 2, 0], 0), (.invokevirtual 41, [171, 1, 1, 1, 3], 0), (.invokevirtual 42, [168, 6, 1, 10, 2], 0), (.pop, [], 0), (.iinc 3 1, [], 0), (.goto (-28), [50, 1, 1, 1, 1], 0)]),
  (81, [(.iinc 2 1, [], 0), (.goto (-46), [38, 1, 1, 1], 0)]),
  (87, [(.iconst 1, [], 0), (.istore_n 2, [], 0), (.iconst 0, [], 0), (.istore_n 3, [], 0), (.nop, [91, 1, 1, 1, 1], 0)]),
  (91, [(.iload_n 3, [], 0), (.bipush 80, [], 0), (.if_icmp .gt 19, [113, 1], 0), (.iload_n 2, [], 0), (.ifCond .eq 15, [113, 1], 0), (.aload_n 0, [], 0), (.aload_n 1, [], 0), (.invokevirtual 46, [167, 2, 1, 6, 2], 0), (.istore_n 2, [], 0), (.iinc 3 1, [], 0), (.goto (-19), [91, 1, 1, 1, 1], 0)]),
  (113, [(.aload_n 0, [], 0), (.getfield 21, [2, 1, 0], 0), (.ldc 20, [], 1000000), (.if_icmp .ge 10, [129], 0), (.aload_n 0, [], 0), (.getfield 21, [2, 1, 0], 0), (.goto 4, [130], 0)]),
  (129, [(.iconst (-1), [], 0), (.nop, [130], 0)]),
  (130, [(.ireturn, [0], 0)])]
/-- MindReaders$Readings.goOn(LMindReaders$Code;)Z -/
def zc_167 : List (Nat × List zE) := [(0, [(.iconst 0, [], 0), (.istore_n 2, [], 0), (.iconst 0, [], 0), (.istore_n 3, [], 0), (.nop, [4, 1, 1, 1, 1], 0)]),
  (4, [(.iload_n 3, [], 0), (.bipush 80, [], 0), (.if_icmp .ge 66, [73, 0, 0, 1], 0), (.aload_n 0, [], 0), (.getfield 16, [2, 0, 2], 0), (.iload_n 3, [], 0), (.invokevirtual 50, [172, 2, 1, 2, 3], 0), (.istore 4, [], 0), (.iconst 0, [], 0), (.istore 5, [], 0), (.nop, [23, 1, 1, 1, 1, 1, 1], 0)]),
  (23, [(.iload 5, [], 0), (.aload_n 1, [], 0), (.invokevirtual 31, [148, 1, 1, 1, 0], 0), (.if_icmp .ge 38, [67, 1, 1, 1, 1], 0), (.iload 4, [], 0), (.ldc 20, [], 1000000), (.if_icmp .ge 31, [67, 1, 1, 1, 1], 0), (.aload_n 0, [], 0), (.aload_n 1, [], 0), (.iload_n 3, [], 0), (.bipush 10, [], 0), (.idiv, [], 0), (.iload_n 3, [], 0), (.bipush 10, [], 0), (.irem, [], 0), (.iload 5, [], 0), (.iload 4, [], 0), (.invokevirtual 42, [168, 6, 1, 10, 2], 0), (.ifCond .eq 5, [61, 1, 1, 1, 1, 1, 1], 0), (.iconst 1, [], 0), (.istore_n 2, [], 0), (.nop, [61, 1, 1, 1, 1, 1, 1], 0)]),
  (61, [(.iinc 5 1, [], 0), (.goto (-41), [23, 1, 1, 1, 1, 1, 1], 0)]),
  (67, [(.iinc 3 1, [], 0), (.goto (-66), [4, 1, 1, 1, 1], 0)]),
  (73, [(.iload_n 2, [], 0), (.ireturn, [1], 0)])]
/-- MindReaders$Readings.meet(LMindReaders$Code;IIII)Z -/
def zc_168 : List (Nat × List zE) := [(0, [(.aload_n 1, [], 0), (.iload_n 2, [], 0), (.invokevirtual 37, [150, 2, 3, 2, 0], 0), (.astore 6, [], 0), (.aload_n 1, [], 0), (.iload 4, [], 0), (.invokevirtual 37, [150, 2, 3, 2, 0], 0), (.astore 7, [], 0), (.aload 6, [], 0), (.invokevirtual 41, [171, 1, 1, 1, 3], 0), (.iload_n 3, [], 0), (.isub, [], 0), (.istore 8, [], 0), (.iload 8, [], 0), (.ifCond .le 11, [37], 0), (.aload 7, [], 0), (.invokevirtual 41, [171, 1, 1, 1, 3], 0), (.ifCond .ne 5, [39, 1, 0, 1, 1, 1, 1, 1, 1, 1], 0), (.nop, [37], 0)]),
  (37, [(.iconst 0, [], 0), (.ireturn, [1], 0)]),
  (39, [(.iconst 0, [], 0), (.istore 9, [], 0), (.nop, [42, 1, 0, 1, 1, 1, 1, 1, 1, 1, 1], 0)]),
  (42, [(.iload 9, [], 0), (.iload 8, [], 0), (.if_icmp .ge 40, [86, 1, 0, 1, 1, 1, 1, 0, 1, 1], 0), (.iload 9, [], 0), (.aload 7, [], 0), (.invokevirtual 41, [171, 1, 1, 1, 3], 0), (.if_icmp .ge 30, [86, 1, 0, 1, 1, 1, 1, 0, 1, 1], 0), (.aload 6, [], 0), (.iload_n 3, [], 0), (.iload 9, [], 0), (.iadd, [], 0), (.invokevirtual 50, [172, 2, 1, 2, 3], 0), (.aload 7, [], 0), (.iload 9, [], 0), (.invokevirtual 50, [172, 2, 1, 2, 3], 0), (.if_icmp .eq 5, [80, 1, 0, 1, 1, 1, 1, 1, 1, 1, 1], 0), (.iconst 0, [], 0), (.ireturn, [1], 0)]),
  (80, [(.iinc 9 1, [], 0), (.goto (-41), [42, 1, 0, 1, 1, 1, 1, 1, 1, 1, 1], 0)]),
  (86, [(.iload 8, [], 0), (.aload 7, [], 0), (.invokevirtual 41, [171, 1, 1, 1, 3], 0), (.if_icmp .ne 18, [111, 1, 0, 1, 1, 1, 1, 0, 1, 1], 0), (.aload_n 0, [], 0), (.aload_n 0, [], 0), (.getfield 21, [2, 1, 0], 0), (.iload 5, [], 0), (.invokestatic 54, [1], 0), (.putfield 21, [2, 1, 0], 0), (.iconst 0, [], 0), (.ireturn, [1], 0)]),
  (111, [(.iload 8, [], 0), (.aload 7, [], 0), (.invokevirtual 41, [171, 1, 1, 1, 3], 0), (.if_icmp .le 18, [136, 1, 0, 0, 0, 1, 1, 0, 1, 1], 0), (.aload_n 0, [], 0), (.iload_n 2, [], 0), (.iload_n 3, [], 0), (.aload 7, [], 0), (.invokevirtual 41, [171, 1, 1, 1, 3], 0), (.iadd, [], 0), (.iload 5, [], 0), (.invokevirtual 60, [169, 4, 1, 5, 2], 0), (.ireturn, [1], 0)]),
  (136, [(.aload_n 0, [], 0), (.iload 4, [], 0), (.iload 8, [], 0), (.iload 5, [], 0), (.aload 7, [], 0), (.invokevirtual 41, [171, 1, 1, 1, 3], 0), (.iadd, [], 0), (.iload 8, [], 0), (.isub, [], 0), (.invokevirtual 60, [169, 4, 1, 5, 2], 0), (.ireturn, [1], 0)])]
/-- MindReaders$Readings.comeTo(III)Z -/
def zc_169 : List (Nat × List zE) := [(0, [(.iload_n 1, [], 0), (.bipush 10, [], 0), (.imul, [], 0), (.iload_n 2, [], 0), (.iadd, [], 0), (.istore 4, [], 0), (.iload_n 3, [], 0), (.aload_n 0, [], 0), (.getfield 16, [2, 0, 2], 0), (.iload 4, [], 0), (.invokevirtual 50, [172, 2, 1, 2, 3], 0), (.if_icmp .lt 5, [23, 1, 0, 0, 1, 1], 0), (.iconst 0, [], 0), (.ireturn, [1], 0)]),
  (23, [(.aload_n 0, [], 0), (.getfield 16, [2, 0, 2], 0), (.iload 4, [], 0), (.iload_n 3, [], 0), (.invokevirtual 64, [173, 3, 0, 3, 3], 0), (.iconst 1, [], 0), (.ireturn, [1], 0)])]
/-- MindReaders$Row.<init>(I)V -/
def zc_170 : List (Nat × List zE) := [(0, [(.aload_n 0, [], 0), (.invokespecial 3, [], 0), (.aload_n 0, [], 0), (.iload_n 1, [], 0), (.iconst 0, [], 0), (.invokestatic 9, [0], 0), (.newarray .int, [0], 0), (.putfield 15, [3, 0, 2], 0), (.return_, [], 0)])]
/-- MindReaders$Row.size()I -/
def zc_171 : List (Nat × List zE) := [(0, [(.aload_n 0, [], 0), (.getfield 21, [3, 1, 0], 0), (.ireturn, [0], 0)])]
/-- MindReaders$Row.at(I)I -/
def zc_172 : List (Nat × List zE) := [(0, [(.iload_n 1, [], 0), (.ifCond .lt 29, [30], 0), (.iload_n 1, [], 0), (.aload_n 0, [], 0), (.getfield 21, [3, 1, 0], 0), (.if_icmp .ge 21, [30], 0), (.iload_n 1, [], 0), (.aload_n 0, [], 0), (.getfield 15, [3, 0, 2], 0), (.arraylength, [], 0), (.if_icmp .ge 12, [30], 0), (.aload_n 0, [], 0), (.getfield 15, [3, 0, 2], 0), (.iload_n 1, [], 0), (.iaload, [], 0), (.goto 4, [31], 0)]),
  (30, [(.iconst (-1), [], 0), (.nop, [31], 0)]),
  (31, [(.ireturn, [0], 0)])]
/-- MindReaders$Row.set(II)V -/
def zc_173 : List (Nat × List zE) := [(0, [(.iload_n 1, [], 0), (.ifCond .lt 27, [28], 0), (.iload_n 1, [], 0), (.aload_n 0, [], 0), (.getfield 21, [3, 1, 0], 0), (.if_icmp .ge 19, [28], 0), (.iload_n 1, [], 0), (.aload_n 0, [], 0), (.getfield 15, [3, 0, 2], 0), (.arraylength, [], 0), (.if_icmp .ge 10, [28], 0), (.aload_n 0, [], 0), (.getfield 15, [3, 0, 2], 0), (.iload_n 1, [], 0), (.iload_n 2, [], 0), (.iastore, [], 0), (.nop, [28], 0)]),
  (28, [(.return_, [], 0)])]
/-- MindReaders$Row.add(I)V -/
def zc_174 : List (Nat × List zE) := [(0, [(.aload_n 0, [], 0), (.getfield 21, [3, 1, 0], 0), (.ifCond .lt 35, [39], 0), (.aload_n 0, [], 0), (.getfield 21, [3, 1, 0], 0), (.aload_n 0, [], 0), (.getfield 15, [3, 0, 2], 0), (.arraylength, [], 0), (.if_icmp .ge 23, [39], 0), (.aload_n 0, [], 0), (.getfield 15, [3, 0, 2], 0), (.aload_n 0, [], 0), (.getfield 21, [3, 1, 0], 0), (.iload_n 1, [], 0), (.iastore, [], 0), (.aload_n 0, [], 0), (.dup, [], 0), (.getfield 21, [3, 1, 0], 0), (.iconst 1, [], 0), (.iadd, [], 0), (.putfield 21, [3, 1, 0], 0), (.nop, [39], 0)]),
  (39, [(.return_, [], 0)])]
/-- MindReaders$Row.dropLast()V -/
def zc_175 : List (Nat × List zE) := [(0, [(.aload_n 0, [], 0), (.getfield 21, [3, 1, 0], 0), (.ifCond .le 13, [17], 0), (.aload_n 0, [], 0), (.dup, [], 0), (.getfield 21, [3, 1, 0], 0), (.iconst 1, [], 0), (.isub, [], 0), (.putfield 21, [3, 1, 0], 0), (.nop, [17], 0)]),
  (17, [(.return_, [], 0)])]
/-- MindReaders$Row.wipe()V -/
def zc_176 : List (Nat × List zE) := [(0, [(.aload_n 0, [], 0), (.iconst 0, [], 0), (.putfield 21, [3, 1, 0], 0), (.return_, [], 0)])]
/-- MindReaders$Row.copyOf(LMindReaders$Row;)V -/
def zc_177 : List (Nat × List zE) := [(0, [(.aload_n 0, [], 0), (.invokevirtual 25, [176, 1, 0, 1, 3], 0), (.iconst 0, [], 0), (.istore_n 2, [], 0), (.nop, [6, 1, 1, 1], 0)]),
  (6, [(.iload_n 2, [], 0), (.aload_n 1, [], 0), (.invokevirtual 28, [171, 1, 1, 1, 3], 0), (.if_icmp .ge 18, [29], 0), (.aload_n 0, [], 0), (.aload_n 1, [], 0), (.iload_n 2, [], 0), (.invokevirtual 31, [172, 2, 1, 2, 3], 0), (.invokevirtual 35, [174, 2, 0, 2, 3], 0), (.iinc 2 1, [], 0), (.goto (-20), [6, 1, 1, 1], 0)]),
  (29, [(.return_, [], 0)])]
/-- MindReaders$Row.isLike(LMindReaders$Row;)Z -/
def zc_178 : List (Nat × List zE) := [(0, [(.aload_n 0, [], 0), (.getfield 21, [3, 1, 0], 0), (.aload_n 1, [], 0), (.invokevirtual 28, [171, 1, 1, 1, 3], 0), (.if_icmp .ne 15, [23], 0), (.aload_n 0, [], 0), (.aload_n 1, [], 0), (.invokevirtual 39, [179, 2, 1, 3, 3], 0), (.ifCond .eq 7, [23], 0), (.iconst 1, [], 0), (.goto 4, [24], 0)]),
  (23, [(.iconst 0, [], 0), (.nop, [24], 0)]),
  (24, [(.ireturn, [1], 0)])]
/-- MindReaders$Row.isStartOf(LMindReaders$Row;)Z -/
def zc_179 : List (Nat × List zE) := [(0, [(.iconst 0, [], 0), (.istore_n 2, [], 0), (.nop, [2, 1, 1, 1], 0)]),
  (2, [(.iload_n 2, [], 0), (.aload_n 0, [], 0), (.getfield 21, [3, 1, 0], 0), (.if_icmp .ge 24, [31], 0), (.aload_n 0, [], 0), (.iload_n 2, [], 0), (.invokevirtual 31, [172, 2, 1, 2, 3], 0), (.aload_n 1, [], 0), (.iload_n 2, [], 0), (.invokevirtual 31, [172, 2, 1, 2, 3], 0), (.if_icmp .eq 5, [25, 1, 1, 1], 0), (.iconst 0, [], 0), (.ireturn, [1], 0)]),
  (25, [(.iinc 2 1, [], 0), (.goto (-26), [2, 1, 1, 1], 0)]),
  (31, [(.iconst 1, [], 0), (.ireturn, [1], 0)])]
/-- MindReaders$Row.placesApart(LMindReaders$Row;)I -/
def zc_180 : List (Nat × List zE) := [(0, [(.iconst 0, [], 0), (.istore_n 2, [], 0), (.iconst 0, [], 0), (.istore_n 3, [], 0), (.nop, [4, 1, 1, 1, 1], 0)]),
  (4, [(.iload_n 3, [], 0), (.aload_n 0, [], 0), (.getfield 21, [3, 1, 0], 0), (.if_icmp .ge 25, [34, 0, 0, 1], 0), (.aload_n 0, [], 0), (.iload_n 3, [], 0), (.invokevirtual 31, [172, 2, 1, 2, 3], 0), (.aload_n 1, [], 0), (.iload_n 3, [], 0), (.invokevirtual 31, [172, 2, 1, 2, 3], 0), (.if_icmp .eq 6, [28, 1, 1, 1, 1], 0), (.iinc 2 1, [], 0), (.nop, [28, 1, 1, 1, 1], 0)]),
  (28, [(.iinc 3 1, [], 0), (.goto (-27), [4, 1, 1, 1, 1], 0)]),
  (34, [(.iload_n 2, [], 0), (.ireturn, [0], 0)])]
/-- MindReaders$Row.isBelow(I)Z -/
def zc_181 : List (Nat × List zE) := [(0, [(.iconst 0, [], 0), (.istore_n 2, [], 0), (.nop, [2, 1, 1, 1], 0)]),
  (2, [(.iload_n 2, [], 0), (.aload_n 0, [], 0), (.getfield 21, [3, 1, 0], 0), (.if_icmp .ge 20, [27], 0), (.aload_n 0, [], 0), (.iload_n 2, [], 0), (.invokevirtual 31, [172, 2, 1, 2, 3], 0), (.iload_n 1, [], 0), (.if_icmp .lt 5, [21, 1, 1, 1], 0), (.iconst 0, [], 0), (.ireturn, [1], 0)]),
  (21, [(.iinc 2 1, [], 0), (.goto (-22), [2, 1, 1, 1], 0)]),
  (27, [(.iconst 1, [], 0), (.ireturn, [1], 0)])]
/-- MindReaders$Row.sumOf(I)I -/
def zc_182 : List (Nat × List zE) := [(0, [(.iconst 0, [], 0), (.istore_n 2, [], 0), (.iconst 0, [], 0), (.istore_n 3, [], 0), (.nop, [4, 1, 1, 1, 1], 0)]),
  (4, [(.iload_n 3, [], 0), (.iload_n 1, [], 0), (.if_icmp .ge 25, [31, 0, 0, 1], 0), (.iload_n 3, [], 0), (.aload_n 0, [], 0), (.getfield 21, [3, 1, 0], 0), (.if_icmp .ge 17, [31, 0, 0, 1], 0), (.iload_n 2, [], 0), (.aload_n 0, [], 0), (.iload_n 3, [], 0), (.invokevirtual 31, [172, 2, 1, 2, 3], 0), (.iadd, [], 0), (.istore_n 2, [], 0), (.iinc 3 1, [], 0), (.goto (-24), [4, 1, 1, 1, 1], 0)]),
  (31, [(.iload_n 2, [], 0), (.ireturn, [0], 0)])]
/-- MindReaders$Row.takeLeast()I -/
def zc_183 : List (Nat × List zE) := [(0, [(.aload_n 0, [], 0), (.getfield 21, [3, 1, 0], 0), (.ifCond .gt 5, [9, 1], 0), (.iconst 0, [], 0), (.ireturn, [0], 0)]),
  (9, [(.iconst 0, [], 0), (.istore_n 1, [], 0), (.iconst 1, [], 0), (.istore_n 2, [], 0), (.nop, [13, 1, 1, 1], 0)]),
  (13, [(.iload_n 2, [], 0), (.aload_n 0, [], 0), (.getfield 21, [3, 1, 0], 0), (.if_icmp .ge 24, [42, 1, 1], 0), (.aload_n 0, [], 0), (.iload_n 2, [], 0), (.invokevirtual 31, [172, 2, 1, 2, 3], 0), (.aload_n 0, [], 0), (.iload_n 1, [], 0), (.invokevirtual 31, [172, 2, 1, 2, 3], 0), (.if_icmp .ge 5, [36, 1, 1, 1], 0), (.iload_n 2, [], 0), (.istore_n 1, [], 0), (.nop, [36, 1, 1, 1], 0)]),
  (36, [(.iinc 2 1, [], 0), (.goto (-26), [13, 1, 1, 1], 0)]),
  (42, [(.aload_n 0, [], 0), (.iload_n 1, [], 0), (.invokevirtual 31, [172, 2, 1, 2, 3], 0), (.istore_n 2, [], 0), (.aload_n 0, [], 0), (.iload_n 1, [], 0), (.aload_n 0, [], 0), (.aload_n 0, [], 0), (.getfield 21, [3, 1, 0], 0), (.iconst 1, [], 0), (.isub, [], 0), (.invokevirtual 31, [172, 2, 1, 2, 3], 0), (.invokevirtual 43, [173, 3, 0, 3, 3], 0), (.aload_n 0, [], 0), (.invokevirtual 47, [175, 1, 0, 1, 3], 0), (.iload_n 2, [], 0), (.ireturn, [0], 0)])]
/-- MindReaders$Row.turn(I)V -/
def zc_184 : List (Nat × List zE) := [(0, [(.iconst 0, [], 0), (.istore_n 2, [], 0), (.nop, [2, 1, 1, 1], 0)]),
  (2, [(.iload_n 2, [], 0), (.aload_n 0, [], 0), (.getfield 21, [3, 1, 0], 0), (.if_icmp .ge 35, [42], 0), (.aload_n 0, [], 0), (.iload_n 2, [], 0), (.invokevirtual 31, [172, 2, 1, 2, 3], 0), (.iconst 1, [], 0), (.iadd, [], 0), (.istore_n 3, [], 0), (.iload_n 3, [], 0), (.iload_n 1, [], 0), (.if_icmp .ge 10, [30, 1, 1, 1], 0), (.aload_n 0, [], 0), (.iload_n 2, [], 0), (.iload_n 3, [], 0), (.invokevirtual 43, [173, 3, 0, 3, 3], 0), (.return_, [], 0)]),
  (30, [(.aload_n 0, [], 0), (.iload_n 2, [], 0), (.iconst 0, [], 0), (.invokevirtual 43, [173, 3, 0, 3, 3], 0), (.iinc 2 1, [], 0), (.goto (-37), [2, 1, 1, 1], 0)]),
  (42, [(.return_, [], 0)])]
/-- MindReaders$Rows.<init>(II)V -/
def zc_185 : List (Nat × List zE) := [(0, [(.aload_n 0, [], 0), (.invokespecial 1, [], 0), (.aload_n 0, [], 0), (.new 7, [3, 2, 0], 0), (.dup, [], 0), (.iconst 0, [], 0), (.invokespecial 9, [170, 2, 0, 2, 3], 0), (.putfield 12, [4, 1, 2], 0), (.aload_n 0, [], 0), (.iload_n 1, [], 0), (.iconst 0, [], 0), (.invokestatic 18, [0], 0), (.anewarray 7, [105], 0), (.putfield 24, [4, 0, 2], 0), (.iconst 0, [], 0), (.istore_n 3, [], 0), (.nop, [30, 1, 0, 1, 1], 0)]),
  (30, [(.iload_n 3, [], 0), (.aload_n 0, [], 0), (.getfield 24, [4, 0, 2], 0), (.arraylength, [], 0), (.if_icmp .ge 23, [59], 0), (.aload_n 0, [], 0), (.getfield 24, [4, 0, 2], 0), (.iload_n 3, [], 0), (.new 7, [3, 2, 0], 0), (.dup, [], 0), (.iload_n 2, [], 0), (.invokespecial 9, [170, 2, 0, 2, 3], 0), (.aastore, [105, 3], 0), (.iinc 3 1, [], 0), (.goto (-26), [30, 1, 0, 1, 1], 0)]),
  (59, [(.return_, [], 0)])]
/-- MindReaders$Rows.row(I)LMindReaders$Row; -/
def zc_186 : List (Nat × List zE) := [(0, [(.iload_n 1, [], 0), (.ifCond .lt 21, [22, 1], 0), (.iload_n 1, [], 0), (.aload_n 0, [], 0), (.getfield 24, [4, 0, 2], 0), (.arraylength, [], 0), (.if_icmp .ge 12, [22, 1], 0), (.aload_n 0, [], 0), (.getfield 24, [4, 0, 2], 0), (.iload_n 1, [], 0), (.aaload, [105], 0), (.goto 4, [23, 1], 0)]),
  (22, [(.aconst_null, [], 0), (.nop, [23, 1], 0)]),
  (23, [(.astore_n 2, [], 0), (.aload_n 2, [], 0), (.ifnonnull 10, [35, 0, 0, 1], 0), (.aload_n 0, [], 0), (.getfield 12, [4, 1, 2], 0), (.goto 4, [36], 0)]),
  (35, [(.aload_n 2, [], 0), (.nop, [36], 0)]),
  (36, [(.areturn, [], 0)])]
/-- MindReaders$Signals.<init>()V -/
def zc_187 : List (Nat × List zE) := [(0, [(.aload_n 0, [], 0), (.invokespecial 3, [], 0), (.aload_n 0, [], 0), (.new 9, [3, 2, 0], 0), (.dup, [], 0), (.bipush 8, [], 0), (.invokespecial 11, [170, 2, 0, 2, 3], 0), (.putfield 14, [5, 0, 2], 0), (.aload_n 0, [], 0), (.new 9, [3, 2, 0], 0), (.dup, [], 0), (.bipush 8, [], 0), (.invokespecial 11, [170, 2, 0, 2, 3], 0), (.putfield 20, [5, 1, 2], 0), (.aload_n 0, [], 0), (.new 9, [3, 2, 0], 0), (.dup, [], 0), (.bipush 8, [], 0), (.invokespecial 11, [170, 2, 0, 2, 3], 0), (.putfield 23, [5, 2, 2], 0), (.aload_n 0, [], 0), (.new 9, [3, 2, 0], 0), (.dup, [], 0), (.bipush 8, [], 0), (.invokespecial 11, [170, 2, 0, 2, 3], 0), (.putfield 26, [5, 3, 2], 0), (.return_, [], 0)])]
/-- MindReaders$Signals.told()I -/
def zc_188 : List (Nat × List zE) := [(0, [(.aload_n 0, [], 0), (.getfield 14, [5, 0, 2], 0), (.invokevirtual 29, [171, 1, 1, 1, 3], 0), (.ireturn, [0], 0)])]
/-- MindReaders$Signals.isTold(I)Z -/
def zc_189 : List (Nat × List zE) := [(0, [(.iload_n 1, [], 0), (.ifCond .lt 18, [19], 0), (.iload_n 1, [], 0), (.aload_n 0, [], 0), (.getfield 14, [5, 0, 2], 0), (.invokevirtual 29, [171, 1, 1, 1, 3], 0), (.if_icmp .ge 7, [19], 0), (.iconst 1, [], 0), (.goto 4, [20], 0)]),
  (19, [(.iconst 0, [], 0), (.nop, [20], 0)]),
  (20, [(.ireturn, [1], 0)])]
/-- MindReaders$Signals.tell(IIII)V -/
def zc_190 : List (Nat × List zE) := [(0, [(.aload_n 0, [], 0), (.getfield 14, [5, 0, 2], 0), (.iload_n 1, [], 0), (.invokevirtual 33, [174, 2, 0, 2, 3], 0), (.aload_n 0, [], 0), (.getfield 20, [5, 1, 2], 0), (.iload_n 2, [], 0), (.invokevirtual 33, [174, 2, 0, 2, 3], 0), (.aload_n 0, [], 0), (.getfield 23, [5, 2, 2], 0), (.iload_n 3, [], 0), (.invokevirtual 33, [174, 2, 0, 2, 3], 0), (.aload_n 0, [], 0), (.getfield 26, [5, 3, 2], 0), (.iload 4, [], 0), (.invokevirtual 33, [174, 2, 0, 2, 3], 0), (.return_, [], 0)])]
/-- MindReaders$Signals.kindOf(I)I -/
def zc_191 : List (Nat × List zE) := [(0, [(.aload_n 0, [], 0), (.getfield 14, [5, 0, 2], 0), (.iload_n 1, [], 0), (.invokevirtual 36, [172, 2, 1, 2, 3], 0), (.istore_n 2, [], 0), (.iload_n 2, [], 0), (.iconst (-1), [], 0), (.if_icmp .ne 7, [18, 0, 0, 1], 0), (.iconst 0, [], 0), (.goto 4, [19], 0)]),
  (18, [(.iload_n 2, [], 0), (.nop, [19], 0)]),
  (19, [(.ireturn, [0], 0)])]
/-- MindReaders$Signals.toneOf(I)I -/
def zc_192 : List (Nat × List zE) := [(0, [(.aload_n 0, [], 0), (.getfield 20, [5, 1, 2], 0), (.iload_n 1, [], 0), (.invokevirtual 36, [172, 2, 1, 2, 3], 0), (.ireturn, [0], 0)])]
/-- MindReaders$Signals.secondsOf(I)I -/
def zc_193 : List (Nat × List zE) := [(0, [(.aload_n 0, [], 0), (.getfield 23, [5, 2, 2], 0), (.iload_n 1, [], 0), (.invokevirtual 36, [172, 2, 1, 2, 3], 0), (.istore_n 2, [], 0), (.iload_n 2, [], 0), (.iconst (-1), [], 0), (.if_icmp .ne 7, [18, 0, 0, 1], 0), (.iconst 1, [], 0), (.goto 4, [19], 0)]),
  (18, [(.iload_n 2, [], 0), (.nop, [19], 0)]),
  (19, [(.ireturn, [0], 0)])]
/-- MindReaders$Signals.oddOf(I)I -/
def zc_194 : List (Nat × List zE) := [(0, [(.aload_n 0, [], 0), (.getfield 26, [5, 3, 2], 0), (.iload_n 1, [], 0), (.invokevirtual 36, [172, 2, 1, 2, 3], 0), (.istore_n 2, [], 0), (.iload_n 2, [], 0), (.iconst (-1), [], 0), (.if_icmp .ne 7, [18, 0, 0, 1], 0), (.iconst 0, [], 0), (.goto 4, [19], 0)]),
  (18, [(.iload_n 2, [], 0), (.nop, [19], 0)]),
  (19, [(.ireturn, [0], 0)])]
/-- MindReaders$Signals.isToneFor(II)Z -/
def zc_195 : List (Nat × List zE) := [(0, [(.iload_n 1, [], 0), (.iconst 2, [], 0), (.if_icmp .eq 14, [16, 1, 0, 1], 0), (.iload_n 2, [], 0), (.iconst (-1), [], 0), (.if_icmp .ne 7, [14], 0), (.iconst 1, [], 0), (.goto 4, [15], 0)]),
  (14, [(.iconst 0, [], 0), (.nop, [15], 0)]),
  (15, [(.ireturn, [1], 0)]),
  (16, [(.aload_n 0, [], 0), (.iload_n 2, [], 0), (.invokevirtual 40, [189, 2, 1, 2, 5], 0), (.ifCond .eq 24, [45], 0), (.aload_n 0, [], 0), (.iload_n 2, [], 0), (.invokevirtual 44, [191, 2, 1, 3, 5], 0), (.ifCond .eq 12, [41], 0), (.aload_n 0, [], 0), (.iload_n 2, [], 0), (.invokevirtual 44, [191, 2, 1, 3, 5], 0), (.iconst 1, [], 0), (.if_icmp .ne 7, [45], 0), (.nop, [41], 0)]),
  (41, [(.iconst 1, [], 0), (.goto 4, [46], 0)]),
  (45, [(.iconst 0, [], 0), (.nop, [46], 0)]),
  (46, [(.ireturn, [1], 0)])]
/-- MindReaders$Signals.secondsOfAll(LMindReaders$Row;)I -/
def zc_196 : List (Nat × List zE) := [(0, [(.iconst 0, [], 0), (.istore_n 2, [], 0), (.iconst 0, [], 0), (.istore_n 3, [], 0), (.nop, [4, 1, 1, 1, 1], 0)]),
  (4, [(.iload_n 3, [], 0), (.aload_n 1, [], 0), (.invokevirtual 29, [171, 1, 1, 1, 3], 0), (.if_icmp .ge 21, [30, 0, 0, 1], 0), (.iload_n 2, [], 0), (.aload_n 0, [], 0), (.aload_n 1, [], 0), (.iload_n 3, [], 0), (.invokevirtual 36, [172, 2, 1, 2, 3], 0), (.invokevirtual 47, [193, 2, 1, 3, 5], 0), (.iadd, [], 0), (.istore_n 2, [], 0), (.iinc 3 1, [], 0), (.goto (-23), [4, 1, 1, 1, 1], 0)]),
  (30, [(.iload_n 2, [], 0), (.ireturn, [0], 0)])]
/-- MindReaders$Signals.oddOfAll(LMindReaders$Row;)I -/
def zc_197 : List (Nat × List zE) := [(0, [(.iconst 0, [], 0), (.istore_n 2, [], 0), (.iconst 0, [], 0), (.istore_n 3, [], 0), (.nop, [4, 1, 1, 1, 1], 0)]),
  (4, [(.iload_n 3, [], 0), (.aload_n 1, [], 0), (.invokevirtual 29, [171, 1, 1, 1, 3], 0), (.if_icmp .ge 21, [30, 0, 0, 1], 0), (.iload_n 2, [], 0), (.aload_n 0, [], 0), (.aload_n 1, [], 0), (.iload_n 3, [], 0), (.invokevirtual 36, [172, 2, 1, 2, 3], 0), (.invokevirtual 50, [194, 2, 1, 3, 5], 0), (.iadd, [], 0), (.istore_n 2, [], 0), (.iinc 3 1, [], 0), (.goto (-23), [4, 1, 1, 1, 1], 0)]),
  (30, [(.iload_n 2, [], 0), (.ireturn, [0], 0)])]
/-- MindReaders$Signals.makePlain(LMindReaders$Row;ILMindReaders$Row;)V -/
def zc_198 : List (Nat × List zE) := [(0, [(.aload_n 3, [], 0), (.invokevirtual 53, [176, 1, 0, 1, 3], 0), (.iconst 0, [], 0), (.istore 4, [], 0), (.nop, [7, 1, 1, 1, 1, 1], 0)]),
  (7, [(.iload 4, [], 0), (.aload_n 1, [], 0), (.invokevirtual 29, [171, 1, 1, 1, 3], 0), (.if_icmp .ge 96, [109], 0), (.aload_n 1, [], 0), (.iload 4, [], 0), (.invokevirtual 36, [172, 2, 1, 2, 3], 0), (.istore 5, [], 0), (.iload_n 2, [], 0), (.iload 5, [], 0), (.ishr, [], 0), (.iconst 1, [], 0), (.iand, [], 0), (.ifCond .eq 6, [36, 1, 1, 1, 1, 1, 1], 0), (.goto 70, [103, 1, 1, 1, 1, 1], 0)]),
  (36, [(.aload_n 0, [], 0), (.iload 5, [], 0), (.invokevirtual 44, [191, 2, 1, 3, 5], 0), (.istore 6, [], 0), (.iload 6, [], 0), (.ifCond .eq 9, [55, 1, 1, 1, 1, 1, 1], 0), (.iload 6, [], 0), (.iconst 1, [], 0), (.if_icmp .ne 12, [64, 1, 1, 1, 1, 1, 1, 1], 0), (.nop, [55, 1, 1, 1, 1, 1, 1], 0)]),
  (55, [(.aload_n 3, [], 0), (.iload 5, [], 0), (.invokevirtual 33, [174, 2, 0, 2, 3], 0), (.goto 42, [103, 1, 1, 1, 1, 1], 0)]),
  (64, [(.iload 6, [], 0), (.iconst 2, [], 0), (.if_icmp .ne 26, [93, 1, 1, 1, 1, 1, 0, 1], 0), (.aload_n 3, [], 0), (.aload_n 0, [], 0), (.iload 5, [], 0), (.invokevirtual 56, [192, 2, 1, 2, 5], 0), (.invokevirtual 33, [174, 2, 0, 2, 3], 0), (.aload_n 3, [], 0), (.aload_n 0, [], 0), (.iload 5, [], 0), (.invokevirtual 56, [192, 2, 1, 2, 5], 0), (.invokevirtual 33, [174, 2, 0, 2, 3], 0), (.goto 13, [103, 1, 1, 1, 1, 1], 0)]),
  (93, [(.iload 6, [], 0), (.iconst 4, [], 0), (.if_icmp .ne 7, [103, 1, 1, 1, 1, 1], 0), (.aload_n 3, [], 0), (.invokevirtual 59, [175, 1, 0, 1, 3], 0), (.nop, [103, 1, 1, 1, 1, 1], 0)]),
  (103, [(.iinc 4 1, [], 0), (.goto (-99), [7, 1, 1, 1, 1, 1], 0)]),
  (109, [(.return_, [], 0)])]
/-- java/lang/Integer.bitCount(I)I -/
def zc_199 : List (Nat × List zE) := [(0, [(.iload_n 0, [], 0), (.iload_n 0, [], 0), (.iconst 1, [], 0), (.iushr, [], 0), (.ldc_w 265, [], 1431655765), (.iand, [], 0), (.isub, [], 0), (.istore_n 0, [], 0), (.iload_n 0, [], 0), (.ldc_w 266, [], 858993459), (.iand, [], 0), (.iload_n 0, [], 0), (.iconst 2, [], 0), (.iushr, [], 0), (.ldc_w 266, [], 858993459), (.iand, [], 0), (.iadd, [], 0), (.istore_n 0, [], 0), (.iload_n 0, [], 0), (.iload_n 0, [], 0), (.iconst 4, [], 0), (.iushr, [], 0), (.iadd, [], 0), (.ldc_w 267, [], 252645135), (.iand, [], 0), (.istore_n 0, [], 0), (.iload_n 0, [], 0), (.iload_n 0, [], 0), (.bipush 8, [], 0), (.iushr, [], 0), (.iadd, [], 0), (.istore_n 0, [], 0), (.iload_n 0, [], 0), (.iload_n 0, [], 0), (.bipush 16, [], 0), (.iushr, [], 0), (.iadd, [], 0), (.istore_n 0, [], 0), (.iload_n 0, [], 0), (.bipush 63, [], 0), (.iand, [], 0), (.ireturn, [0], 0)])]
def zmtl : List zM := [(x, code, 4, ret, 10, 235),
  (⟨"MindReaders", "<init>", "()V"⟩, prog_1_method_1_code, 2, none, 4, 85),
  (⟨"MindReaders", "letters", "(J)I"⟩, prog_1_method_2_code, 5, some .int, 2, 46),
  (⟨"MindReaders", "blank", "()I"⟩, prog_1_method_3_code, 2, some .int, 1, 20),
  (⟨"MindReaders", "fault", "()I"⟩, prog_1_method_4_code, 1, some .int, 2, 45),
  (⟨"MindReaders", "code", "()I"⟩, prog_1_method_5_code, 3, some .int, 4, 91),
  (⟨"MindReaders", "signal", "(IIII)I"⟩, prog_1_method_6_code, 7, some .int, 4, 91),
  (⟨"MindReaders", "as", "(II)I"⟩, prog_1_method_7_code, 5, some .int, 2, 43),
  (⟨"MindReaders", "about", "(II)I"⟩, prog_1_method_8_code, 3, some .int, 2, 43),
  (⟨"MindReaders", "thing", "(I)I"⟩, prog_1_method_9_code, 2, some .int, 1, 21),
  (⟨"MindReaders", "weigh", "(II)I"⟩, prog_1_method_10_code, 4, some .int, 2, 41),
  (⟨"MindReaders", "speech", "(III)I"⟩, prog_1_method_11_code, 5, some .int, 4, 88),
  (⟨"MindReaders", "means", "(I)I"⟩, prog_1_method_12_code, 3, some .int, 4, 89),
  (⟨"MindReaders", "clear", "(II)I"⟩, prog_1_method_13_code, 5, some .int, 4, 86),
  (⟨"MindReaders", "starts", "(II)I"⟩, prog_1_method_14_code, 4, some .int, 3, 65),
  (⟨"MindReaders", "twice", "(I)I"⟩, prog_1_method_15_code, 3, some .int, 5, 123),
  (⟨"MindReaders", "mean", "(II)I"⟩, prog_1_method_16_code, 8, some .int, 4, 88),
  (⟨"MindReaders", "oddness", "(I)I"⟩, prog_1_method_17_code, 6, some .int, 3, 66),
  (⟨"MindReaders", "dealt", "(II)I"⟩, prog_1_method_18_code, 8, some .int, 6, 138),
  (⟨"MindReaders", "shortest", "(II)I"⟩, prog_1_method_19_code, 3, some .int, 3, 71),
  (⟨"MindReaders", "apart", "(I)I"⟩, prog_1_method_20_code, 3, some .int, 3, 68),
  (⟨"MindReaders", "named", "(I)I"⟩, prog_1_method_21_code, 3, some .int, 4, 89),
  (⟨"MindReaders", "right", "(IIIII)J"⟩, prog_1_method_22_code, 8, some .long, 4, 101),
  (⟨"MindReaders", "note", "(I)I"⟩, prog_1_method_23_code, 2, some .int, 3, 65),
  (⟨"MindReaders", "forget", "()I"⟩, prog_1_method_24_code, 2, some .int, 2, 40),
  (⟨"MindReaders", "which", "()I"⟩, prog_1_method_25_code, 4, some .int, 4, 94),
  (⟨"MindReaders", "step", "(II)I"⟩, prog_1_method_26_code, 6, some .int, 4, 94),
  (⟨"MindReaders", "seen", "(II)J"⟩, prog_1_method_27_code, 3, some .long, 2, 52),
  (⟨"MindReaders", "change", "(II)I"⟩, prog_1_method_28_code, 5, some .int, 5, 112),
  (⟨"MindReaders", "cheapest", "(I)I"⟩, prog_1_method_29_code, 8, some .int, 5, 112),
  (⟨"MindReaders", "luck", "(IIII)J"⟩, prog_1_method_30_code, 8, some .long, 1, 31),
  (⟨"MindReaders", "left", "(II)I"⟩, prog_1_method_31_code, 4, some .int, 4, 96),
  (⟨"MindReaders", "stop", "(I)I"⟩, prog_1_method_32_code, 5, some .int, 4, 96),
  (⟨"MindReaders", "image", "()I"⟩, prog_1_method_33_code, 1, some .int, 4, 87),
  (⟨"MindReaders", "restore", "()I"⟩, prog_1_method_34_code, 2, some .int, 4, 87),
  (⟨"MindReaders", "count", "(I)I"⟩, prog_1_method_35_code, 2, some .int, 2, 44),
  (⟨"MindReaders", "digest", "()J"⟩, prog_1_method_36_code, 5, some .long, 6, 151),
  (⟨"MindReaders", "mix", "(JJ)J"⟩, prog_1_method_37_code, 4, some .long, 0, 0),
  (⟨"MindReaders", "mixRow", "(JLMindReaders$Row;)J"⟩, prog_1_method_38_code, 6, some .long, 1, 23),
  (⟨"MindReaders", "mixCode", "(JILMindReaders$Code;)J"⟩, prog_1_method_39_code, 9, some .long, 5, 123),
  (⟨"MindReaders", "byteOf", "(JI)I"⟩, prog_1_method_40_code, 3, some .int, 0, 0),
  (⟨"MindReaders", "lettersIn", "(J)I"⟩, prog_1_method_41_code, 5, some .int, 1, 22),
  (⟨"MindReaders", "signalOf", "(I)I"⟩, prog_1_method_42_code, 1, some .int, 0, 0),
  (⟨"MindReaders", "firstFault", "()I"⟩, prog_1_method_43_code, 5, some .int, 1, 21),
  (⟨"MindReaders", "readPage", "()Z"⟩, prog_1_method_44_code, 3, some .boolean, 1, 21),
  (⟨"MindReaders", "hearPage", "()Z"⟩, prog_1_method_45_code, 1, some .boolean, 3, 69),
  (⟨"MindReaders", "isWeight", "(I)Z"⟩, prog_1_method_46_code, 1, some .boolean, 0, 0),
  (⟨"MindReaders", "isPart", "(I)Z"⟩, prog_1_method_47_code, 1, some .boolean, 0, 0),
  (⟨"MindReaders", "isThing", "(I)Z"⟩, prog_1_method_48_code, 2, some .boolean, 1, 20),
  (⟨"MindReaders", "codeAt", "(I)LMindReaders$Code;"⟩, prog_1_method_49_code, 2, some (.object "MindReaders$Code"), 0, 0),
  (⟨"MindReaders", "thingsSaid", "(LMindReaders$Code;)I"⟩, prog_1_method_50_code, 2, some .int, 1, 21),
  (⟨"MindReaders", "longOf", "(LMindReaders$Code;I)I"⟩, prog_1_method_51_code, 3, some .int, 3, 66),
  (⟨"MindReaders", "ofPair", "(II)I"⟩, prog_1_method_52_code, 2, some .int, 0, 0),
  (⟨"MindReaders", "dealtTo", "(LMindReaders$Code;I)I"⟩, prog_1_method_53_code, 6, some .int, 5, 113),
  (⟨"MindReaders", "rankByLong", "(LMindReaders$Code;II)I"⟩, prog_1_method_54_code, 6, some .int, 4, 88),
  (⟨"MindReaders", "isAhead", "(IIII)Z"⟩, prog_1_method_55_code, 4, some .boolean, 0, 0),
  (⟨"MindReaders", "changeOf", "(LMindReaders$Code;LMindReaders$Code;)I"⟩, prog_1_method_56_code, 5, some .int, 4, 88),
  (⟨"MindReaders", "notesLet", "(LMindReaders$Code;II)Z"⟩, prog_1_method_57_code, 6, some .boolean, 3, 69),
  (⟨"MindReaders", "leastLong", "(I)J"⟩, prog_1_method_58_code, 8, some .long, 2, 44),
  (⟨"MindReaders", "waysNamed", "(LMindReaders$Code;III)J"⟩, prog_1_method_59_code, 13, some .long, 3, 69),
  (⟨"MindReaders", "waysHeard", "(LMindReaders$Row;II)J"⟩, prog_1_method_60_code, 7, some .long, 1, 21),
  (⟨"MindReaders", "waysAllSeen", "(I)J"⟩, prog_1_method_61_code, 8, some .long, 1, 25),
  (⟨"MindReaders", "choices", "(II)J"⟩, prog_1_method_62_code, 5, some .long, 0, 0),
  (⟨"MindReaders", "power", "(JI)J"⟩, prog_1_method_63_code, 6, some .long, 0, 0),
  (⟨"MindReaders", "lowest", "(JJI)J"⟩, prog_1_method_64_code, 12, some .long, 0, 0),
  (⟨"MindReaders", "unlike", "(LMindReaders$Code;II)I"⟩, prog_1_method_65_code, 8, some .int, 3, 69),
  (⟨"MindReadersModel", "<init>", "()V"⟩, prog_9_method_1_code, 1, none, 1, 20),
  (⟨"MindReadersModel", "in", "(JJJ)Z"⟩, prog_9_method_2_code, 6, some .boolean, 0, 0),
  (⟨"MindReadersModel", "letters", "(J)I"⟩, prog_9_method_3_code, 9, some .int, 0, 0),
  (⟨"MindReadersModel", "blank", "()I"⟩, prog_9_method_4_code, 2, some .int, 0, 0),
  (⟨"MindReadersModel", "go", "(I)Z"⟩, prog_9_method_5_code, 3, some .boolean, 1, 25),
  (⟨"MindReadersModel", "faultOf", "()I"⟩, prog_9_method_6_code, 2, some .int, 2, 47),
  (⟨"MindReadersModel", "fault", "()I"⟩, prog_9_method_7_code, 1, some .int, 3, 68),
  (⟨"MindReadersModel", "code", "()I"⟩, prog_9_method_8_code, 2, some .int, 3, 68),
  (⟨"MindReadersModel", "isCode", "(I)Z"⟩, prog_9_method_9_code, 2, some .boolean, 1, 25),
  (⟨"MindReadersModel", "signal", "(IIII)I"⟩, prog_9_method_10_code, 6, some .int, 1, 25),
  (⟨"MindReadersModel", "isSignal", "(I)Z"⟩, prog_9_method_11_code, 2, some .boolean, 1, 25),
  (⟨"MindReadersModel", "as", "(II)I"⟩, prog_9_method_12_code, 5, some .int, 2, 46),
  (⟨"MindReadersModel", "about", "(II)I"⟩, prog_9_method_13_code, 3, some .int, 2, 46),
  (⟨"MindReadersModel", "thing", "(I)I"⟩, prog_9_method_14_code, 2, some .int, 1, 25),
  (⟨"MindReadersModel", "isThing", "(I)Z"⟩, prog_9_method_15_code, 2, some .boolean, 1, 25),
  (⟨"MindReadersModel", "weigh", "(II)I"⟩, prog_9_method_16_code, 4, some .int, 2, 46),
  (⟨"MindReadersModel", "kindOf", "(I)I"⟩, prog_9_method_17_code, 2, some .int, 2, 46),
  (⟨"MindReadersModel", "secondsOf", "(I)I"⟩, prog_9_method_18_code, 2, some .int, 2, 46),
  (⟨"MindReadersModel", "oddOf", "(I)I"⟩, prog_9_method_19_code, 2, some .int, 2, 46),
  (⟨"MindReadersModel", "stand", "(I)V"⟩, prog_9_method_20_code, 3, none, 3, 67),
  (⟨"MindReadersModel", "layPlain", "(III)V"⟩, prog_9_method_21_code, 6, none, 4, 89),
  (⟨"MindReadersModel", "layAll", "(II)V"⟩, prog_9_method_22_code, 5, none, 5, 114),
  (⟨"MindReadersModel", "longOf", "(II)I"⟩, prog_9_method_23_code, 6, some .int, 3, 67),
  (⟨"MindReadersModel", "speechOf", "(III)I"⟩, prog_9_method_24_code, 5, some .int, 5, 114),
  (⟨"MindReadersModel", "speech", "(III)I"⟩, prog_9_method_25_code, 4, some .int, 6, 138),
  (⟨"MindReadersModel", "isStart", "(III)Z"⟩, prog_9_method_26_code, 6, some .boolean, 0, 0),
  (⟨"MindReadersModel", "isAlike", "(II)Z"⟩, prog_9_method_27_code, 3, some .boolean, 1, 25),
  (⟨"MindReadersModel", "layPage", "()Z"⟩, prog_9_method_28_code, 3, some .boolean, 4, 89),
  (⟨"MindReadersModel", "differs", "(I)I"⟩, prog_9_method_29_code, 4, some .int, 0, 0),
  (⟨"MindReadersModel", "namedNow", "(I)I"⟩, prog_9_method_30_code, 6, some .int, 1, 23),
  (⟨"MindReadersModel", "means", "(I)I"⟩, prog_9_method_31_code, 3, some .int, 6, 138),
  (⟨"MindReadersModel", "alikeOf", "(I)I"⟩, prog_9_method_32_code, 4, some .int, 6, 138),
  (⟨"MindReadersModel", "clear", "(II)I"⟩, prog_9_method_33_code, 4, some .int, 7, 161),
  (⟨"MindReadersModel", "starts", "(II)I"⟩, prog_9_method_34_code, 7, some .int, 6, 138),
  (⟨"MindReadersModel", "goesOn", "(III)Z"⟩, prog_9_method_35_code, 8, some .boolean, 0, 0),
  (⟨"MindReadersModel", "reach", "(III)Z"⟩, prog_9_method_36_code, 5, some .boolean, 0, 0),
  (⟨"MindReadersModel", "reachBy", "(IIII)Z"⟩, prog_9_method_37_code, 7, some .boolean, 1, 24),
  (⟨"MindReadersModel", "twiceOf", "(I)I"⟩, prog_9_method_38_code, 10, some .int, 6, 138),
  (⟨"MindReadersModel", "twice", "(I)I"⟩, prog_9_method_39_code, 2, some .int, 7, 167),
  (⟨"MindReadersModel", "saidBy", "(I)I"⟩, prog_9_method_40_code, 2, some .int, 0, 0),
  (⟨"MindReadersModel", "common", "(JJ)J"⟩, prog_9_method_41_code, 10, some .long, 0, 0),
  (⟨"MindReadersModel", "term", "(JJI)J"⟩, prog_9_method_42_code, 7, some .long, 1, 29),
  (⟨"MindReadersModel", "isPart", "(I)Z"⟩, prog_9_method_43_code, 1, some .boolean, 1, 25),
  (⟨"MindReadersModel", "weighed", "(I)I"⟩, prog_9_method_44_code, 4, some .int, 0, 0),
  (⟨"MindReadersModel", "mean", "(II)I"⟩, prog_9_method_45_code, 6, some .int, 4, 92),
  (⟨"MindReadersModel", "oddnessOf", "(I)I"⟩, prog_9_method_46_code, 6, some .int, 3, 67),
  (⟨"MindReadersModel", "oddness", "(I)I"⟩, prog_9_method_47_code, 2, some .int, 4, 92),
  (⟨"MindReadersModel", "placeOf", "(II)I"⟩, prog_9_method_48_code, 5, some .int, 0, 0),
  (⟨"MindReadersModel", "speechAt", "(III)I"⟩, prog_9_method_49_code, 9, some .int, 4, 92),
  (⟨"MindReadersModel", "dealt", "(II)I"⟩, prog_9_method_50_code, 6, some .int, 5, 120),
  (⟨"MindReadersModel", "takeLeast", "(I)I"⟩, prog_9_method_51_code, 4, some .int, 0, 0),
  (⟨"MindReadersModel", "shortNow", "(I)I"⟩, prog_9_method_52_code, 7, some .int, 1, 23),
  (⟨"MindReadersModel", "shortest", "(II)I"⟩, prog_9_method_53_code, 3, some .int, 2, 55),
  (⟨"MindReadersModel", "apartOf", "(I)I"⟩, prog_9_method_54_code, 7, some .int, 6, 138),
  (⟨"MindReadersModel", "apart", "(I)I"⟩, prog_9_method_55_code, 2, some .int, 7, 164),
  (⟨"MindReadersModel", "named", "(I)I"⟩, prog_9_method_56_code, 2, some .int, 6, 138),
  (⟨"MindReadersModel", "isAmong", "(II)Z"⟩, prog_9_method_57_code, 5, some .boolean, 0, 0),
  (⟨"MindReadersModel", "right", "(IIIII)J"⟩, prog_9_method_58_code, 17, some .long, 6, 138),
  (⟨"MindReadersModel", "note", "(I)I"⟩, prog_9_method_59_code, 3, some .int, 5, 111),
  (⟨"MindReadersModel", "forget", "()I"⟩, prog_9_method_60_code, 2, some .int, 0, 0),
  (⟨"MindReadersModel", "isSaid", "(III)Z"⟩, prog_9_method_61_code, 5, some .boolean, 4, 89),
  (⟨"MindReadersModel", "whichNow", "()I"⟩, prog_9_method_62_code, 5, some .int, 6, 138),
  (⟨"MindReadersModel", "which", "()I"⟩, prog_9_method_63_code, 1, some .int, 7, 162),
  (⟨"MindReadersModel", "step", "(II)I"⟩, prog_9_method_64_code, 8, some .int, 6, 138),
  (⟨"MindReadersModel", "seen", "(II)J"⟩, prog_9_method_65_code, 8, some .long, 2, 55),
  (⟨"MindReadersModel", "isLike", "(III)Z"⟩, prog_9_method_66_code, 8, some .boolean, 0, 0),
  (⟨"MindReadersModel", "changeOf", "(II)I"⟩, prog_9_method_67_code, 6, some .int, 4, 92),
  (⟨"MindReadersModel", "change", "(II)I"⟩, prog_9_method_68_code, 3, some .int, 5, 117),
  (⟨"MindReadersModel", "cheapest", "(I)I"⟩, prog_9_method_69_code, 7, some .int, 5, 117),
  (⟨"MindReadersModel", "luck", "(IIII)J"⟩, prog_9_method_70_code, 10, some .long, 2, 55),
  (⟨"MindReadersModel", "leftOf", "(II)I"⟩, prog_9_method_71_code, 7, some .int, 6, 138),
  (⟨"MindReadersModel", "left", "(II)I"⟩, prog_9_method_72_code, 3, some .int, 7, 164),
  (⟨"MindReadersModel", "stopOf", "(I)I"⟩, prog_9_method_73_code, 7, some .int, 7, 164),
  (⟨"MindReadersModel", "stop", "(I)I"⟩, prog_9_method_74_code, 2, some .int, 8, 190),
  (⟨"MindReadersModel", "image", "()I"⟩, prog_9_method_75_code, 2, some .int, 0, 0),
  (⟨"MindReadersModel", "restore", "()I"⟩, prog_9_method_76_code, 2, some .int, 0, 0),
  (⟨"MindReadersModel", "countOf", "(I)I"⟩, prog_9_method_77_code, 2, some .int, 1, 23),
  (⟨"MindReadersModel", "count", "(I)I"⟩, prog_9_method_78_code, 2, some .int, 2, 44),
  (⟨"MindReadersModel", "say", "(J)V"⟩, prog_9_method_79_code, 3, none, 0, 0),
  (⟨"MindReadersModel", "sayCode", "(I)V"⟩, prog_9_method_80_code, 4, none, 8, 190),
  (⟨"MindReadersModel", "digest", "()J"⟩, prog_9_method_81_code, 3, some .long, 9, 213),
  (⟨"MindReaders$Code", "<init>", "()V"⟩, prog_2_method_1_code, 1, none, 3, 65),
  (⟨"MindReaders$Code", "size", "()I"⟩, prog_2_method_2_code, 1, some .int, 0, 0),
  (⟨"MindReaders$Code", "spoken", "(I)LMindReaders$Row;"⟩, prog_2_method_3_code, 2, some (.object "MindReaders$Row"), 1, 22),
  (⟨"MindReaders$Code", "plain", "(I)LMindReaders$Row;"⟩, prog_2_method_4_code, 2, some (.object "MindReaders$Row"), 1, 22),
  (⟨"MindReaders$Code", "readFrom", "(LMindReaders$Row;)V"⟩, prog_2_method_5_code, 4, none, 2, 43),
  (⟨"MindReaders$Code", "makePlain", "(LMindReaders$Signals;)V"⟩, prog_2_method_6_code, 3, none, 3, 69),
  (⟨"MindReaders$Code", "meaningOf", "(LMindReaders$Row;)I"⟩, prog_2_method_7_code, 3, some .int, 3, 64),
  (⟨"MindReaders$Code", "firstAlike", "()I"⟩, prog_2_method_8_code, 3, some .int, 3, 64),
  (⟨"MindReaders$Code", "firstStart", "()I"⟩, prog_2_method_9_code, 3, some .int, 2, 43),
  (⟨"MindReaders$Code", "leastApart", "()I"⟩, prog_2_method_10_code, 5, some .int, 2, 44),
  (⟨"MindReaders$Code", "nearestTo", "(LMindReaders$Row;)I"⟩, prog_2_method_11_code, 6, some .int, 2, 44),
  (⟨"MindReaders$Notes", "<init>", "()V"⟩, prog_3_method_1_code, 1, none, 3, 65),
  (⟨"MindReaders$Notes", "size", "()I"⟩, prog_3_method_2_code, 1, some .int, 1, 20),
  (⟨"MindReaders$Notes", "thingOf", "(I)I"⟩, prog_3_method_3_code, 2, some .int, 1, 21),
  (⟨"MindReaders$Notes", "rowOf", "(I)LMindReaders$Row;"⟩, prog_3_method_4_code, 2, some (.object "MindReaders$Row"), 1, 22),
  (⟨"MindReaders$Notes", "add", "(ILMindReaders$Row;)V"⟩, prog_3_method_5_code, 3, none, 2, 43),
  (⟨"MindReaders$Notes", "wipe", "()V"⟩, prog_3_method_6_code, 1, none, 1, 20),
  (⟨"MindReaders$Notes", "copyOf", "(LMindReaders$Notes;)V"⟩, prog_3_method_7_code, 3, none, 3, 65),
  (⟨"MindReaders$Readings", "<init>", "()V"⟩, prog_4_method_1_code, 1, none, 2, 42),
  (⟨"MindReaders$Readings", "leastTwice", "(LMindReaders$Code;)I"⟩, prog_4_method_2_code, 4, some .int, 4, 100),
  (⟨"MindReaders$Readings", "goOn", "(LMindReaders$Code;)Z"⟩, prog_4_method_3_code, 6, some .boolean, 3, 75),
  (⟨"MindReaders$Readings", "meet", "(LMindReaders$Code;IIII)Z"⟩, prog_4_method_4_code, 10, some .boolean, 2, 46),
  (⟨"MindReaders$Readings", "comeTo", "(III)Z"⟩, prog_4_method_5_code, 5, some .boolean, 1, 22),
  (⟨"MindReaders$Row", "<init>", "(I)V"⟩, prog_5_method_1_code, 2, none, 1, 21),
  (⟨"MindReaders$Row", "size", "()I"⟩, prog_5_method_2_code, 1, some .int, 0, 0),
  (⟨"MindReaders$Row", "at", "(I)I"⟩, prog_5_method_3_code, 2, some .int, 0, 0),
  (⟨"MindReaders$Row", "set", "(II)V"⟩, prog_5_method_4_code, 3, none, 0, 0),
  (⟨"MindReaders$Row", "add", "(I)V"⟩, prog_5_method_5_code, 2, none, 0, 0),
  (⟨"MindReaders$Row", "dropLast", "()V"⟩, prog_5_method_6_code, 1, none, 0, 0),
  (⟨"MindReaders$Row", "wipe", "()V"⟩, prog_5_method_7_code, 1, none, 0, 0),
  (⟨"MindReaders$Row", "copyOf", "(LMindReaders$Row;)V"⟩, prog_5_method_8_code, 3, none, 1, 21),
  (⟨"MindReaders$Row", "isLike", "(LMindReaders$Row;)Z"⟩, prog_5_method_9_code, 2, some .boolean, 2, 43),
  (⟨"MindReaders$Row", "isStartOf", "(LMindReaders$Row;)Z"⟩, prog_5_method_10_code, 3, some .boolean, 1, 21),
  (⟨"MindReaders$Row", "placesApart", "(LMindReaders$Row;)I"⟩, prog_5_method_11_code, 4, some .int, 1, 21),
  (⟨"MindReaders$Row", "isBelow", "(I)Z"⟩, prog_5_method_12_code, 3, some .boolean, 1, 21),
  (⟨"MindReaders$Row", "sumOf", "(I)I"⟩, prog_5_method_13_code, 4, some .int, 1, 21),
  (⟨"MindReaders$Row", "takeLeast", "()I"⟩, prog_5_method_14_code, 3, some .int, 1, 22),
  (⟨"MindReaders$Row", "turn", "(I)V"⟩, prog_5_method_15_code, 4, none, 1, 22),
  (⟨"MindReaders$Rows", "<init>", "(II)V"⟩, prog_6_method_1_code, 4, none, 2, 42),
  (⟨"MindReaders$Rows", "row", "(I)LMindReaders$Row;"⟩, prog_6_method_2_code, 3, some (.object "MindReaders$Row"), 0, 0),
  (⟨"MindReaders$Signals", "<init>", "()V"⟩, prog_7_method_1_code, 1, none, 2, 42),
  (⟨"MindReaders$Signals", "told", "()I"⟩, prog_7_method_2_code, 1, some .int, 1, 20),
  (⟨"MindReaders$Signals", "isTold", "(I)Z"⟩, prog_7_method_3_code, 2, some .boolean, 1, 20),
  (⟨"MindReaders$Signals", "tell", "(IIII)V"⟩, prog_7_method_4_code, 5, none, 1, 21),
  (⟨"MindReaders$Signals", "kindOf", "(I)I"⟩, prog_7_method_5_code, 3, some .int, 1, 21),
  (⟨"MindReaders$Signals", "toneOf", "(I)I"⟩, prog_7_method_6_code, 2, some .int, 1, 21),
  (⟨"MindReaders$Signals", "secondsOf", "(I)I"⟩, prog_7_method_7_code, 3, some .int, 1, 21),
  (⟨"MindReaders$Signals", "oddOf", "(I)I"⟩, prog_7_method_8_code, 3, some .int, 1, 21),
  (⟨"MindReaders$Signals", "isToneFor", "(II)Z"⟩, prog_7_method_9_code, 3, some .boolean, 2, 43),
  (⟨"MindReaders$Signals", "secondsOfAll", "(LMindReaders$Row;)I"⟩, prog_7_method_10_code, 4, some .int, 2, 43),
  (⟨"MindReaders$Signals", "oddOfAll", "(LMindReaders$Row;)I"⟩, prog_7_method_11_code, 4, some .int, 2, 43),
  (⟨"MindReaders$Signals", "makePlain", "(LMindReaders$Row;ILMindReaders$Row;)V"⟩, prog_7_method_12_code, 7, none, 2, 43),
  (⟨"java/lang/Integer", "bitCount", "(I)I"⟩, prog_10_method_49_code, 1, some .int, 0, 0)]
def zcol : List (List (Nat × List zE)) := [zc_0, zc_1, zc_2, zc_3, zc_4, zc_5, zc_6, zc_7, zc_8, zc_9, zc_10, zc_11, zc_12, zc_13, zc_14, zc_15, zc_16, zc_17, zc_18, zc_19, zc_20, zc_21, zc_22, zc_23, zc_24, zc_25, zc_26, zc_27, zc_28, zc_29, zc_30, zc_31, zc_32, zc_33, zc_34, zc_35, zc_36, zc_37, zc_38, zc_39, zc_40, zc_41, zc_42, zc_43, zc_44, zc_45, zc_46, zc_47, zc_48, zc_49, zc_50, zc_51, zc_52, zc_53, zc_54, zc_55, zc_56, zc_57, zc_58, zc_59, zc_60, zc_61, zc_62, zc_63, zc_64, zc_65, zc_66, zc_67, zc_68, zc_69, zc_70, zc_71, zc_72, zc_73, zc_74, zc_75, zc_76, zc_77, zc_78, zc_79, zc_80, zc_81, zc_82, zc_83, zc_84, zc_85, zc_86, zc_87, zc_88, zc_89, zc_90, zc_91, zc_92, zc_93, zc_94, zc_95, zc_96, zc_97, zc_98, zc_99, zc_100, zc_101, zc_102, zc_103, zc_104, zc_105, zc_106, zc_107, zc_108, zc_109, zc_110, zc_111, zc_112, zc_113, zc_114, zc_115, zc_116, zc_117, zc_118, zc_119, zc_120, zc_121, zc_122, zc_123, zc_124, zc_125, zc_126, zc_127, zc_128, zc_129, zc_130, zc_131, zc_132, zc_133, zc_134, zc_135, zc_136, zc_137, zc_138, zc_139, zc_140, zc_141, zc_142, zc_143, zc_144, zc_145, zc_146, zc_147, zc_148, zc_149, zc_150, zc_151, zc_152, zc_153, zc_154, zc_155, zc_156, zc_157, zc_158, zc_159, zc_160, zc_161, zc_162, zc_163, zc_164, zc_165, zc_166, zc_167, zc_168, zc_169, zc_170, zc_171, zc_172, zc_173, zc_174, zc_175, zc_176, zc_177, zc_178, zc_179, zc_180, zc_181, zc_182, zc_183, zc_184, zc_185, zc_186, zc_187, zc_188, zc_189, zc_190, zc_191, zc_192, zc_193, zc_194, zc_195, zc_196, zc_197, zc_198, zc_199]
def zmt (M : Nat) : Option zM := zmtl[M]?
def zblk (M pc : Nat) : Option (List zE) := match zcol[M]? with
  | some bs => bs.lookup pc
  | none => none
end
section
/-! ===== what each block of code does (printed by a program of mine; each by rfl) ===== -/
/-- MindReaders$Code.size()I -/
theorem e_148_0 (xs : List Int) (p : Nat) (h : zH) : zx zblk xs 148 0 [some (.inr (.inr (some p)))] [] h = (zgi h (some p) 0 2 fun f1 => some (some (.inl f1), h)) := (zx_unfold zblk xs 148 0 _ rfl _ _ _).trans rfl
/-- MindReaders$Code.spoken(I)LMindReaders$Row; -/
theorem e_149_0 (xs : List Int) (p : Nat) (v1 : Int) (h : zH) : zx zblk xs 149 0 [some (.inr (.inr (some p))), some (.inl v1)] [] h = (zgr h (some p) 0 0 fun f1 => (zck h f1 4 (zcr (zx zblk xs 186 0 [some (.inr (.inr f1)), some (.inl v1)] [] h) fun r3 h2 => some (some (.inr (.inr r3)), h2)))) := (zx_unfold zblk xs 149 0 _ rfl _ _ _).trans rfl
/-- MindReaders$Code.plain(I)LMindReaders$Row; -/
theorem e_150_0 (xs : List Int) (p : Nat) (v1 : Int) (h : zH) : zx zblk xs 150 0 [some (.inr (.inr (some p))), some (.inl v1)] [] h = (zgr h (some p) 0 1 fun f1 => (zck h f1 4 (zcr (zx zblk xs 186 0 [some (.inr (.inr f1)), some (.inl v1)] [] h) fun r3 h2 => some (some (.inr (.inr r3)), h2)))) := (zx_unfold zblk xs 150 0 _ rfl _ _ _).trans rfl
/-- MindReaders$Code.readFrom(LMindReaders$Row;)V -/
theorem e_151_0 (xs : List Int) (p : Nat) (v1 : Option Nat) (h : zH) : zx zblk xs 151 0 [some (.inr (.inr (some p))), some (.inr (.inr v1))] [] h = (zpf h (some p) 0 2 (.inl 1) fun h1 => zx zblk xs 151 7 [some (.inr (.inr (some p))), some (.inr (.inr v1)), some (.inl 0)] [] h1) := (zx_unfold zblk xs 151 0 _ rfl _ _ _).trans rfl
theorem e_151_7 (xs : List Int) (p : Nat) (v1 : Option Nat) (v2 : Int) (h : zH) : zx zblk xs 151 7 [some (.inr (.inr (some p))), some (.inr (.inr v1)), some (.inl v2)] [] h = (zck h v1 3 (zci (zx zblk xs 171 0 [some (.inr (.inr v1))] [] h) fun r2 h1 => (if zw r2 ≤ zw v2 then zx zblk xs 151 62 [] [] h1 else (zck h1 v1 3 (zci (zx zblk xs 172 0 [some (.inr (.inr v1)), some (.inl v2)] [] h1) fun r4 h3 => (zci (zx zblk xs 42 0 [some (.inl r4)] [] h3) fun r6 h5 => (if zw r6 ≠ zw (-1) then zx zblk xs 151 42 [some (.inr (.inr (some p))), some (.inr (.inr v1)), some (.inl v2), some (.inl r6)] [] h5 else (zgi h5 (some p) 0 2 fun f7 => (zpf h5 (some p) 0 2 (.inl (f7 + 1)) fun h8 => zx zblk xs 151 56 [some (.inr (.inr (some p))), some (.inr (.inr v1)), some (.inl v2)] [] h8))))))))) := (zx_unfold zblk xs 151 7 _ rfl _ _ _).trans rfl
theorem e_151_42 (xs : List Int) (p : Nat) (v1 : Option Nat) (v2 : Int) (v3 : Int) (h : zH) : zx zblk xs 151 42 [some (.inr (.inr (some p))), some (.inr (.inr v1)), some (.inl v2), some (.inl v3)] [] h = (zgi h (some p) 0 2 fun f1 => (zck h (some p) 0 (zcr (zx zblk xs 149 0 [some (.inr (.inr (some p))), some (.inl (f1 - 1))] [] h) fun r3 h2 => (zck h2 r3 3 (zcv (zx zblk xs 174 0 [some (.inr (.inr r3)), some (.inl v3)] [] h2) fun h4 => zx zblk xs 151 56 [some (.inr (.inr (some p))), some (.inr (.inr v1)), some (.inl v2)] [] h4))))) := (zx_unfold zblk xs 151 42 _ rfl _ _ _).trans rfl
theorem e_151_56 (xs : List Int) (p : Nat) (v1 : Option Nat) (v2 : Int) (h : zH) : zx zblk xs 151 56 [some (.inr (.inr (some p))), some (.inr (.inr v1)), some (.inl v2)] [] h = zx zblk xs 151 7 [some (.inr (.inr (some p))), some (.inr (.inr v1)), some (.inl (v2 + 1))] [] h := (zx_unfold zblk xs 151 56 _ rfl _ _ _).trans rfl
theorem e_151_62 (xs : List Int)  (h : zH) : zx zblk xs 151 62 [] [] h = some (none, h) := (zx_unfold zblk xs 151 62 _ rfl _ _ _).trans rfl
/-- MindReaders$Code.makePlain(LMindReaders$Signals;)V -/
theorem e_152_0 (xs : List Int) (p : Nat) (v1 : Option Nat) (h : zH) : zx zblk xs 152 0 [some (.inr (.inr (some p))), some (.inr (.inr v1))] [] h = zx zblk xs 152 2 [some (.inr (.inr (some p))), some (.inr (.inr v1)), some (.inl 0)] [] h := (zx_unfold zblk xs 152 0 _ rfl _ _ _).trans rfl
theorem e_152_2 (xs : List Int) (p : Nat) (v1 : Option Nat) (v2 : Int) (h : zH) : zx zblk xs 152 2 [some (.inr (.inr (some p))), some (.inr (.inr v1)), some (.inl v2)] [] h = (zgi h (some p) 0 2 fun f1 => (if zw f1 ≤ zw v2 then zx zblk xs 152 31 [] [] h else (zck h (some p) 0 (zcr (zx zblk xs 149 0 [some (.inr (.inr (some p))), some (.inl v2)] [] h) fun r3 h2 => (zck h2 (some p) 0 (zcr (zx zblk xs 150 0 [some (.inr (.inr (some p))), some (.inl v2)] [] h2) fun r5 h4 => (zck h4 v1 5 (zcv (zx zblk xs 198 0 [some (.inr (.inr v1)), some (.inr (.inr r3)), some (.inl 0), some (.inr (.inr r5))] [] h4) fun h6 => zx zblk xs 152 2 [some (.inr (.inr (some p))), some (.inr (.inr v1)), some (.inl (v2 + 1))] [] h6)))))))) := (zx_unfold zblk xs 152 2 _ rfl _ _ _).trans rfl
theorem e_152_31 (xs : List Int)  (h : zH) : zx zblk xs 152 31 [] [] h = some (none, h) := (zx_unfold zblk xs 152 31 _ rfl _ _ _).trans rfl
/-- MindReaders$Code.meaningOf(LMindReaders$Row;)I -/
theorem e_153_0 (xs : List Int) (p : Nat) (v1 : Option Nat) (h : zH) : zx zblk xs 153 0 [some (.inr (.inr (some p))), some (.inr (.inr v1))] [] h = zx zblk xs 153 2 [some (.inr (.inr (some p))), some (.inr (.inr v1)), some (.inl 0)] [] h := (zx_unfold zblk xs 153 0 _ rfl _ _ _).trans rfl
theorem e_153_2 (xs : List Int) (p : Nat) (v1 : Option Nat) (v2 : Int) (h : zH) : zx zblk xs 153 2 [some (.inr (.inr (some p))), some (.inr (.inr v1)), some (.inl v2)] [] h = (zgi h (some p) 0 2 fun f1 => (if zw f1 ≤ zw v2 then zx zblk xs 153 30 [] [] h else (zck h (some p) 0 (zcr (zx zblk xs 150 0 [some (.inr (.inr (some p))), some (.inl v2)] [] h) fun r3 h2 => (zck h2 r3 3 (zci (zx zblk xs 178 0 [some (.inr (.inr r3)), some (.inr (.inr v1))] [] h2) fun r5 h4 => (if zw r5 = 0 then zx zblk xs 153 24 [some (.inr (.inr (some p))), some (.inr (.inr v1)), some (.inl v2)] [] h4 else some (some (.inl v2), h4)))))))) := (zx_unfold zblk xs 153 2 _ rfl _ _ _).trans rfl
theorem e_153_24 (xs : List Int) (p : Nat) (v1 : Option Nat) (v2 : Int) (h : zH) : zx zblk xs 153 24 [some (.inr (.inr (some p))), some (.inr (.inr v1)), some (.inl v2)] [] h = zx zblk xs 153 2 [some (.inr (.inr (some p))), some (.inr (.inr v1)), some (.inl (v2 + 1))] [] h := (zx_unfold zblk xs 153 24 _ rfl _ _ _).trans rfl
theorem e_153_30 (xs : List Int)  (h : zH) : zx zblk xs 153 30 [] [] h = some (some (.inl (-1)), h) := (zx_unfold zblk xs 153 30 _ rfl _ _ _).trans rfl
/-- MindReaders$Code.firstAlike()I -/
theorem e_154_0 (xs : List Int) (p : Nat) (h : zH) : zx zblk xs 154 0 [some (.inr (.inr (some p)))] [] h = zx zblk xs 154 2 [some (.inr (.inr (some p))), some (.inl 0)] [] h := (zx_unfold zblk xs 154 0 _ rfl _ _ _).trans rfl
theorem e_154_2 (xs : List Int) (p : Nat) (v1 : Int) (h : zH) : zx zblk xs 154 2 [some (.inr (.inr (some p))), some (.inl v1)] [] h = (zgi h (some p) 0 2 fun f1 => (if zw f1 ≤ zw v1 then zx zblk xs 154 57 [] [] h else zx zblk xs 154 14 [some (.inr (.inr (some p))), some (.inl v1), some (.inl (v1 + 1))] [] h)) := (zx_unfold zblk xs 154 2 _ rfl _ _ _).trans rfl
theorem e_154_14 (xs : List Int) (p : Nat) (v1 : Int) (v2 : Int) (h : zH) : zx zblk xs 154 14 [some (.inr (.inr (some p))), some (.inl v1), some (.inl v2)] [] h = (zgi h (some p) 0 2 fun f1 => (if zw f1 ≤ zw v2 then zx zblk xs 154 51 [some (.inr (.inr (some p))), some (.inl v1)] [] h else (zck h (some p) 0 (zcr (zx zblk xs 150 0 [some (.inr (.inr (some p))), some (.inl v1)] [] h) fun r3 h2 => (zck h2 (some p) 0 (zcr (zx zblk xs 150 0 [some (.inr (.inr (some p))), some (.inl v2)] [] h2) fun r5 h4 => (zck h4 r3 3 (zci (zx zblk xs 178 0 [some (.inr (.inr r3)), some (.inr (.inr r5))] [] h4) fun r7 h6 => (if zw r7 = 0 then zx zblk xs 154 45 [some (.inr (.inr (some p))), some (.inl v1), some (.inl v2)] [] h6 else some (some (.inl ((v1 * 8) + v2)), h6)))))))))) := (zx_unfold zblk xs 154 14 _ rfl _ _ _).trans rfl
theorem e_154_45 (xs : List Int) (p : Nat) (v1 : Int) (v2 : Int) (h : zH) : zx zblk xs 154 45 [some (.inr (.inr (some p))), some (.inl v1), some (.inl v2)] [] h = zx zblk xs 154 14 [some (.inr (.inr (some p))), some (.inl v1), some (.inl (v2 + 1))] [] h := (zx_unfold zblk xs 154 45 _ rfl _ _ _).trans rfl
theorem e_154_51 (xs : List Int) (p : Nat) (v1 : Int) (h : zH) : zx zblk xs 154 51 [some (.inr (.inr (some p))), some (.inl v1)] [] h = zx zblk xs 154 2 [some (.inr (.inr (some p))), some (.inl (v1 + 1))] [] h := (zx_unfold zblk xs 154 51 _ rfl _ _ _).trans rfl
theorem e_154_57 (xs : List Int)  (h : zH) : zx zblk xs 154 57 [] [] h = some (some (.inl (-1)), h) := (zx_unfold zblk xs 154 57 _ rfl _ _ _).trans rfl
/-- MindReaders$Code.firstStart()I -/
theorem e_155_0 (xs : List Int) (p : Nat) (h : zH) : zx zblk xs 155 0 [some (.inr (.inr (some p)))] [] h = zx zblk xs 155 2 [some (.inr (.inr (some p))), some (.inl 0)] [] h := (zx_unfold zblk xs 155 0 _ rfl _ _ _).trans rfl
theorem e_155_2 (xs : List Int) (p : Nat) (v1 : Int) (h : zH) : zx zblk xs 155 2 [some (.inr (.inr (some p))), some (.inl v1)] [] h = (zgi h (some p) 0 2 fun f1 => (if zw f1 ≤ zw v1 then zx zblk xs 155 74 [] [] h else zx zblk xs 155 12 [some (.inr (.inr (some p))), some (.inl v1), some (.inl 0)] [] h)) := (zx_unfold zblk xs 155 2 _ rfl _ _ _).trans rfl
theorem e_155_12 (xs : List Int) (p : Nat) (v1 : Int) (v2 : Int) (h : zH) : zx zblk xs 155 12 [some (.inr (.inr (some p))), some (.inl v1), some (.inl v2)] [] h = (zgi h (some p) 0 2 fun f1 => (if zw f1 ≤ zw v2 then zx zblk xs 155 68 [some (.inr (.inr (some p))), some (.inl v1)] [] h else (zck h (some p) 0 (zcr (zx zblk xs 150 0 [some (.inr (.inr (some p))), some (.inl v1)] [] h) fun r3 h2 => (zck h2 r3 3 (zci (zx zblk xs 171 0 [some (.inr (.inr r3))] [] h2) fun r5 h4 => (zck h4 (some p) 0 (zcr (zx zblk xs 150 0 [some (.inr (.inr (some p))), some (.inl v2)] [] h4) fun r7 h6 => (zck h6 r7 3 (zci (zx zblk xs 171 0 [some (.inr (.inr r7))] [] h6) fun r9 h8 => (if zw r9 ≤ zw r5 then zx zblk xs 155 62 [some (.inr (.inr (some p))), some (.inl v1), some (.inl v2)] [] h8 else (zck h8 (some p) 0 (zcr (zx zblk xs 150 0 [some (.inr (.inr (some p))), some (.inl v1)] [] h8) fun r11 h10 => (zck h10 (some p) 0 (zcr (zx zblk xs 150 0 [some (.inr (.inr (some p))), some (.inl v2)] [] h10) fun r13 h12 => (zck h12 r11 3 (zci (zx zblk xs 179 0 [some (.inr (.inr r11)), some (.inr (.inr r13))] [] h12) fun r15 h14 => (if zw r15 = 0 then zx zblk xs 155 62 [some (.inr (.inr (some p))), some (.inl v1), some (.inl v2)] [] h14 else some (some (.inl ((v1 * 8) + v2)), h14))))))))))))))))))) := (zx_unfold zblk xs 155 12 _ rfl _ _ _).trans rfl
theorem e_155_62 (xs : List Int) (p : Nat) (v1 : Int) (v2 : Int) (h : zH) : zx zblk xs 155 62 [some (.inr (.inr (some p))), some (.inl v1), some (.inl v2)] [] h = zx zblk xs 155 12 [some (.inr (.inr (some p))), some (.inl v1), some (.inl (v2 + 1))] [] h := (zx_unfold zblk xs 155 62 _ rfl _ _ _).trans rfl
theorem e_155_68 (xs : List Int) (p : Nat) (v1 : Int) (h : zH) : zx zblk xs 155 68 [some (.inr (.inr (some p))), some (.inl v1)] [] h = zx zblk xs 155 2 [some (.inr (.inr (some p))), some (.inl (v1 + 1))] [] h := (zx_unfold zblk xs 155 68 _ rfl _ _ _).trans rfl
theorem e_155_74 (xs : List Int)  (h : zH) : zx zblk xs 155 74 [] [] h = some (some (.inl (-1)), h) := (zx_unfold zblk xs 155 74 _ rfl _ _ _).trans rfl
/-- MindReaders$Code.leastApart()I -/
theorem e_156_0 (xs : List Int) (p : Nat) (h : zH) : zx zblk xs 156 0 [some (.inr (.inr (some p)))] [] h = zx zblk xs 156 4 [some (.inr (.inr (some p))), some (.inl (-1)), some (.inl 0)] [] h := (zx_unfold zblk xs 156 0 _ rfl _ _ _).trans rfl
theorem e_156_4 (xs : List Int) (p : Nat) (v1 : Int) (v2 : Int) (h : zH) : zx zblk xs 156 4 [some (.inr (.inr (some p))), some (.inl v1), some (.inl v2)] [] h = (zgi h (some p) 0 2 fun f1 => (if zw f1 ≤ zw v2 then zx zblk xs 156 81 [none, some (.inl v1)] [] h else (zck h (some p) 0 (zcr (zx zblk xs 150 0 [some (.inr (.inr (some p))), some (.inl v2)] [] h) fun r3 h2 => (zck h2 r3 3 (zci (zx zblk xs 171 0 [some (.inr (.inr r3))] [] h2) fun r5 h4 => (zck h4 (some p) 0 (zcr (zx zblk xs 150 0 [some (.inr (.inr (some p))), some (.inl 0)] [] h4) fun r7 h6 => (zck h6 r7 3 (zci (zx zblk xs 171 0 [some (.inr (.inr r7))] [] h6) fun r9 h8 => (if zw r5 = zw r9 then zx zblk xs 156 33 [some (.inr (.inr (some p))), some (.inl v1), some (.inl v2)] [] h8 else some (some (.inl (-1)), h8)))))))))))) := (zx_unfold zblk xs 156 4 _ rfl _ _ _).trans rfl
theorem e_156_33 (xs : List Int) (p : Nat) (v1 : Int) (v2 : Int) (h : zH) : zx zblk xs 156 33 [some (.inr (.inr (some p))), some (.inl v1), some (.inl v2)] [] h = zx zblk xs 156 35 [some (.inr (.inr (some p))), some (.inl v1), some (.inl v2), some (.inl 0)] [] h := (zx_unfold zblk xs 156 33 _ rfl _ _ _).trans rfl
theorem e_156_35 (xs : List Int) (p : Nat) (v1 : Int) (v2 : Int) (v3 : Int) (h : zH) : zx zblk xs 156 35 [some (.inr (.inr (some p))), some (.inl v1), some (.inl v2), some (.inl v3)] [] h = (if zw v2 ≤ zw v3 then zx zblk xs 156 75 [some (.inr (.inr (some p))), some (.inl v1), some (.inl v2)] [] h else (zck h (some p) 0 (zcr (zx zblk xs 150 0 [some (.inr (.inr (some p))), some (.inl v2)] [] h) fun r2 h1 => (zck h1 (some p) 0 (zcr (zx zblk xs 150 0 [some (.inr (.inr (some p))), some (.inl v3)] [] h1) fun r4 h3 => (zck h3 r2 3 (zci (zx zblk xs 180 0 [some (.inr (.inr r2)), some (.inr (.inr r4))] [] h3) fun r6 h5 => (if zw v1 = zw (-1) then zx zblk xs 156 66 [some (.inr (.inr (some p))), none, some (.inl v2), some (.inl v3), some (.inl r6)] [] h5 else (if zw v1 ≤ zw r6 then zx zblk xs 156 69 [some (.inr (.inr (some p))), some (.inl v1), some (.inl v2), some (.inl v3)] [] h5 else zx zblk xs 156 66 [some (.inr (.inr (some p))), none, some (.inl v2), some (.inl v3), some (.inl r6)] [] h5))))))))) := (zx_unfold zblk xs 156 35 _ rfl _ _ _).trans rfl
theorem e_156_66 (xs : List Int) (p : Nat) (v2 : Int) (v3 : Int) (v4 : Int) (h : zH) : zx zblk xs 156 66 [some (.inr (.inr (some p))), none, some (.inl v2), some (.inl v3), some (.inl v4)] [] h = zx zblk xs 156 69 [some (.inr (.inr (some p))), some (.inl v4), some (.inl v2), some (.inl v3)] [] h := (zx_unfold zblk xs 156 66 _ rfl _ _ _).trans rfl
theorem e_156_69 (xs : List Int) (p : Nat) (v1 : Int) (v2 : Int) (v3 : Int) (h : zH) : zx zblk xs 156 69 [some (.inr (.inr (some p))), some (.inl v1), some (.inl v2), some (.inl v3)] [] h = zx zblk xs 156 35 [some (.inr (.inr (some p))), some (.inl v1), some (.inl v2), some (.inl (v3 + 1))] [] h := (zx_unfold zblk xs 156 69 _ rfl _ _ _).trans rfl
theorem e_156_75 (xs : List Int) (p : Nat) (v1 : Int) (v2 : Int) (h : zH) : zx zblk xs 156 75 [some (.inr (.inr (some p))), some (.inl v1), some (.inl v2)] [] h = zx zblk xs 156 4 [some (.inr (.inr (some p))), some (.inl v1), some (.inl (v2 + 1))] [] h := (zx_unfold zblk xs 156 75 _ rfl _ _ _).trans rfl
theorem e_156_81 (xs : List Int) (v1 : Int) (h : zH) : zx zblk xs 156 81 [none, some (.inl v1)] [] h = some (some (.inl v1), h) := (zx_unfold zblk xs 156 81 _ rfl _ _ _).trans rfl
/-- MindReaders$Code.nearestTo(LMindReaders$Row;)I -/
theorem e_157_0 (xs : List Int) (p : Nat) (v1 : Option Nat) (h : zH) : zx zblk xs 157 0 [some (.inr (.inr (some p))), some (.inr (.inr v1))] [] h = zx zblk xs 157 7 [some (.inr (.inr (some p))), some (.inr (.inr v1)), some (.inl (-1)), some (.inl 0), some (.inl 0)] [] h := (zx_unfold zblk xs 157 0 _ rfl _ _ _).trans rfl
theorem e_157_7 (xs : List Int) (p : Nat) (v1 : Option Nat) (v2 : Int) (v3 : Int) (v4 : Int) (h : zH) : zx zblk xs 157 7 [some (.inr (.inr (some p))), some (.inr (.inr v1)), some (.inl v2), some (.inl v3), some (.inl v4)] [] h = (zgi h (some p) 0 2 fun f1 => (if zw f1 ≤ zw v4 then zx zblk xs 157 70 [none, none, some (.inl v2)] [] h else (zck h (some p) 0 (zcr (zx zblk xs 150 0 [some (.inr (.inr (some p))), some (.inl v4)] [] h) fun r3 h2 => (zck h2 r3 3 (zci (zx zblk xs 171 0 [some (.inr (.inr r3))] [] h2) fun r5 h4 => (zck h4 v1 3 (zci (zx zblk xs 171 0 [some (.inr (.inr v1))] [] h4) fun r7 h6 => (if zw r5 = zw r7 then zx zblk xs 157 35 [some (.inr (.inr (some p))), some (.inr (.inr v1)), some (.inl v2), some (.inl v3), some (.inl v4)] [] h6 else zx zblk xs 157 64 [some (.inr (.inr (some p))), some (.inr (.inr v1)), some (.inl v2), some (.inl v3), some (.inl v4)] [] h6))))))))) := (zx_unfold zblk xs 157 7 _ rfl _ _ _).trans rfl
theorem e_157_35 (xs : List Int) (p : Nat) (v1 : Option Nat) (v2 : Int) (v3 : Int) (v4 : Int) (h : zH) : zx zblk xs 157 35 [some (.inr (.inr (some p))), some (.inr (.inr v1)), some (.inl v2), some (.inl v3), some (.inl v4)] [] h = (zck h (some p) 0 (zcr (zx zblk xs 150 0 [some (.inr (.inr (some p))), some (.inl v4)] [] h) fun r2 h1 => (zck h1 r2 3 (zci (zx zblk xs 180 0 [some (.inr (.inr r2)), some (.inr (.inr v1))] [] h1) fun r4 h3 => (if zw v2 = zw (-1) then zx zblk xs 157 58 [some (.inr (.inr (some p))), some (.inr (.inr v1)), none, none, some (.inl v4), some (.inl r4)] [] h3 else (if zw v3 ≤ zw r4 then zx zblk xs 157 64 [some (.inr (.inr (some p))), some (.inr (.inr v1)), some (.inl v2), some (.inl v3), some (.inl v4)] [] h3 else zx zblk xs 157 58 [some (.inr (.inr (some p))), some (.inr (.inr v1)), none, none, some (.inl v4), some (.inl r4)] [] h3)))))) := (zx_unfold zblk xs 157 35 _ rfl _ _ _).trans rfl
theorem e_157_58 (xs : List Int) (p : Nat) (v1 : Option Nat) (v4 : Int) (v5 : Int) (h : zH) : zx zblk xs 157 58 [some (.inr (.inr (some p))), some (.inr (.inr v1)), none, none, some (.inl v4), some (.inl v5)] [] h = zx zblk xs 157 64 [some (.inr (.inr (some p))), some (.inr (.inr v1)), some (.inl v4), some (.inl v5), some (.inl v4)] [] h := (zx_unfold zblk xs 157 58 _ rfl _ _ _).trans rfl
theorem e_157_64 (xs : List Int) (p : Nat) (v1 : Option Nat) (v2 : Int) (v3 : Int) (v4 : Int) (h : zH) : zx zblk xs 157 64 [some (.inr (.inr (some p))), some (.inr (.inr v1)), some (.inl v2), some (.inl v3), some (.inl v4)] [] h = zx zblk xs 157 7 [some (.inr (.inr (some p))), some (.inr (.inr v1)), some (.inl v2), some (.inl v3), some (.inl (v4 + 1))] [] h := (zx_unfold zblk xs 157 64 _ rfl _ _ _).trans rfl
theorem e_157_70 (xs : List Int) (v2 : Int) (h : zH) : zx zblk xs 157 70 [none, none, some (.inl v2)] [] h = some (some (.inl v2), h) := (zx_unfold zblk xs 157 70 _ rfl _ _ _).trans rfl
/-- MindReaders$Notes.size()I -/
theorem e_159_0 (xs : List Int) (p : Nat) (h : zH) : zx zblk xs 159 0 [some (.inr (.inr (some p)))] [] h = (zgr h (some p) 1 0 fun f1 => (zck h f1 3 (zci (zx zblk xs 171 0 [some (.inr (.inr f1))] [] h) fun r3 h2 => some (some (.inl r3), h2)))) := (zx_unfold zblk xs 159 0 _ rfl _ _ _).trans rfl
/-- MindReaders$Notes.thingOf(I)I -/
theorem e_160_0 (xs : List Int) (p : Nat) (v1 : Int) (h : zH) : zx zblk xs 160 0 [some (.inr (.inr (some p))), some (.inl v1)] [] h = (zgr h (some p) 1 0 fun f1 => (zck h f1 3 (zci (zx zblk xs 172 0 [some (.inr (.inr f1)), some (.inl v1)] [] h) fun r3 h2 => some (some (.inl r3), h2)))) := (zx_unfold zblk xs 160 0 _ rfl _ _ _).trans rfl
/-- MindReaders$Notes.rowOf(I)LMindReaders$Row; -/
theorem e_161_0 (xs : List Int) (p : Nat) (v1 : Int) (h : zH) : zx zblk xs 161 0 [some (.inr (.inr (some p))), some (.inl v1)] [] h = (zgr h (some p) 1 1 fun f1 => (zck h f1 4 (zcr (zx zblk xs 186 0 [some (.inr (.inr f1)), some (.inl v1)] [] h) fun r3 h2 => some (some (.inr (.inr r3)), h2)))) := (zx_unfold zblk xs 161 0 _ rfl _ _ _).trans rfl
/-- MindReaders$Notes.add(ILMindReaders$Row;)V -/
theorem e_162_0 (xs : List Int) (p : Nat) (v1 : Int) (v2 : Option Nat) (h : zH) : zx zblk xs 162 0 [some (.inr (.inr (some p))), some (.inl v1), some (.inr (.inr v2))] [] h = (zgr h (some p) 1 1 fun f1 => (zgr h (some p) 1 0 fun f2 => (zck h f2 3 (zci (zx zblk xs 171 0 [some (.inr (.inr f2))] [] h) fun r4 h3 => (zck h3 f1 4 (zcr (zx zblk xs 186 0 [some (.inr (.inr f1)), some (.inl r4)] [] h3) fun r6 h5 => (zck h5 r6 3 (zcv (zx zblk xs 177 0 [some (.inr (.inr r6)), some (.inr (.inr v2))] [] h5) fun h7 => (zgr h7 (some p) 1 0 fun f8 => (zck h7 f8 3 (zcv (zx zblk xs 174 0 [some (.inr (.inr f8)), some (.inl v1)] [] h7) fun h9 => some (none, h9)))))))))))) := (zx_unfold zblk xs 162 0 _ rfl _ _ _).trans rfl
/-- MindReaders$Notes.wipe()V -/
theorem e_163_0 (xs : List Int) (p : Nat) (h : zH) : zx zblk xs 163 0 [some (.inr (.inr (some p)))] [] h = (zgr h (some p) 1 0 fun f1 => (zck h f1 3 (zcv (zx zblk xs 176 0 [some (.inr (.inr f1))] [] h) fun h2 => some (none, h2)))) := (zx_unfold zblk xs 163 0 _ rfl _ _ _).trans rfl
/-- MindReaders$Notes.copyOf(LMindReaders$Notes;)V -/
theorem e_164_0 (xs : List Int) (p : Nat) (v1 : Option Nat) (h : zH) : zx zblk xs 164 0 [some (.inr (.inr (some p))), some (.inr (.inr v1))] [] h = (zck h (some p) 1 (zcv (zx zblk xs 163 0 [some (.inr (.inr (some p)))] [] h) fun h1 => zx zblk xs 164 6 [some (.inr (.inr (some p))), some (.inr (.inr v1)), some (.inl 0)] [] h1)) := (zx_unfold zblk xs 164 0 _ rfl _ _ _).trans rfl
theorem e_164_6 (xs : List Int) (p : Nat) (v1 : Option Nat) (v2 : Int) (h : zH) : zx zblk xs 164 6 [some (.inr (.inr (some p))), some (.inr (.inr v1)), some (.inl v2)] [] h = (zck h v1 1 (zci (zx zblk xs 159 0 [some (.inr (.inr v1))] [] h) fun r2 h1 => (if zw r2 ≤ zw v2 then zx zblk xs 164 34 [] [] h1 else (zck h1 v1 1 (zci (zx zblk xs 160 0 [some (.inr (.inr v1)), some (.inl v2)] [] h1) fun r4 h3 => (zck h3 v1 1 (zcr (zx zblk xs 161 0 [some (.inr (.inr v1)), some (.inl v2)] [] h3) fun r6 h5 => (zck h5 (some p) 1 (zcv (zx zblk xs 162 0 [some (.inr (.inr (some p))), some (.inl r4), some (.inr (.inr r6))] [] h5) fun h7 => zx zblk xs 164 6 [some (.inr (.inr (some p))), some (.inr (.inr v1)), some (.inl (v2 + 1))] [] h7))))))))) := (zx_unfold zblk xs 164 6 _ rfl _ _ _).trans rfl
theorem e_164_34 (xs : List Int)  (h : zH) : zx zblk xs 164 34 [] [] h = some (none, h) := (zx_unfold zblk xs 164 34 _ rfl _ _ _).trans rfl
/-- MindReaders$Readings.leastTwice(LMindReaders$Code;)I -/
theorem e_166_0 (xs : List Int) (p : Nat) (v1 : Option Nat) (h : zH) : zx zblk xs 166 0 [some (.inr (.inr (some p))), some (.inr (.inr v1))] [] h = (zpf h (some p) 2 1 (.inl 1000000) fun h1 => (zgr h1 (some p) 2 0 fun f2 => (zck h1 f2 3 (zcv (zx zblk xs 176 0 [some (.inr (.inr f2))] [] h1) fun h3 => zx zblk xs 166 15 [some (.inr (.inr (some p))), some (.inr (.inr v1)), some (.inl 0)] [] h3)))) := (zx_unfold zblk xs 166 0 _ rfl _ _ _).trans rfl
theorem e_166_15 (xs : List Int) (p : Nat) (v1 : Option Nat) (v2 : Int) (h : zH) : zx zblk xs 166 15 [some (.inr (.inr (some p))), some (.inr (.inr v1)), some (.inl v2)] [] h = (if zw 80 ≤ zw v2 then zx zblk xs 166 36 [some (.inr (.inr (some p))), some (.inr (.inr v1))] [] h else (zgr h (some p) 2 0 fun f1 => (zck h f1 3 (zcv (zx zblk xs 174 0 [some (.inr (.inr f1)), some (.inl 1000000)] [] h) fun h2 => zx zblk xs 166 15 [some (.inr (.inr (some p))), some (.inr (.inr v1)), some (.inl (v2 + 1))] [] h2)))) := (zx_unfold zblk xs 166 15 _ rfl _ _ _).trans rfl
theorem e_166_36 (xs : List Int) (p : Nat) (v1 : Option Nat) (h : zH) : zx zblk xs 166 36 [some (.inr (.inr (some p))), some (.inr (.inr v1))] [] h = zx zblk xs 166 38 [some (.inr (.inr (some p))), some (.inr (.inr v1)), some (.inl 0)] [] h := (zx_unfold zblk xs 166 36 _ rfl _ _ _).trans rfl
theorem e_166_38 (xs : List Int) (p : Nat) (v1 : Option Nat) (v2 : Int) (h : zH) : zx zblk xs 166 38 [some (.inr (.inr (some p))), some (.inr (.inr v1)), some (.inl v2)] [] h = (zck h v1 0 (zci (zx zblk xs 148 0 [some (.inr (.inr v1))] [] h) fun r2 h1 => (if zw r2 ≤ zw v2 then zx zblk xs 166 87 [some (.inr (.inr (some p))), some (.inr (.inr v1))] [] h1 else zx zblk xs 166 50 [some (.inr (.inr (some p))), some (.inr (.inr v1)), some (.inl v2), some (.inl (v2 + 1))] [] h1))) := (zx_unfold zblk xs 166 38 _ rfl _ _ _).trans rfl
theorem e_166_50 (xs : List Int) (p : Nat) (v1 : Option Nat) (v2 : Int) (v3 : Int) (h : zH) : zx zblk xs 166 50 [some (.inr (.inr (some p))), some (.inr (.inr v1)), some (.inl v2), some (.inl v3)] [] h = (zck h v1 0 (zci (zx zblk xs 148 0 [some (.inr (.inr v1))] [] h) fun r2 h1 => (if zw r2 ≤ zw v3 then zx zblk xs 166 81 [some (.inr (.inr (some p))), some (.inr (.inr v1)), some (.inl v2)] [] h1 else (zck h1 v1 0 (zcr (zx zblk xs 150 0 [some (.inr (.inr v1)), some (.inl v2)] [] h1) fun r4 h3 => (zck h3 r4 3 (zci (zx zblk xs 171 0 [some (.inr (.inr r4))] [] h3) fun r6 h5 => (zck h5 (some p) 2 (zci (zx zblk xs 168 0 [some (.inr (.inr (some p))), some (.inr (.inr v1)), some (.inl v2), some (.inl 0), some (.inl v3), some (.inl r6)] [] h5) fun r8 h7 => zx zblk xs 166 50 [some (.inr (.inr (some p))), some (.inr (.inr v1)), some (.inl v2), some (.inl (v3 + 1))] [] h7))))))))) := (zx_unfold zblk xs 166 50 _ rfl _ _ _).trans rfl
theorem e_166_81 (xs : List Int) (p : Nat) (v1 : Option Nat) (v2 : Int) (h : zH) : zx zblk xs 166 81 [some (.inr (.inr (some p))), some (.inr (.inr v1)), some (.inl v2)] [] h = zx zblk xs 166 38 [some (.inr (.inr (some p))), some (.inr (.inr v1)), some (.inl (v2 + 1))] [] h := (zx_unfold zblk xs 166 81 _ rfl _ _ _).trans rfl
theorem e_166_87 (xs : List Int) (p : Nat) (v1 : Option Nat) (h : zH) : zx zblk xs 166 87 [some (.inr (.inr (some p))), some (.inr (.inr v1))] [] h = zx zblk xs 166 91 [some (.inr (.inr (some p))), some (.inr (.inr v1)), some (.inl 1), some (.inl 0)] [] h := (zx_unfold zblk xs 166 87 _ rfl _ _ _).trans rfl
theorem e_166_91 (xs : List Int) (p : Nat) (v1 : Option Nat) (v2 : Int) (v3 : Int) (h : zH) : zx zblk xs 166 91 [some (.inr (.inr (some p))), some (.inr (.inr v1)), some (.inl v2), some (.inl v3)] [] h = (if zw 80 < zw v3 then zx zblk xs 166 113 [some (.inr (.inr (some p)))] [] h else (if zw v2 = 0 then zx zblk xs 166 113 [some (.inr (.inr (some p)))] [] h else (zck h (some p) 2 (zci (zx zblk xs 167 0 [some (.inr (.inr (some p))), some (.inr (.inr v1))] [] h) fun r2 h1 => zx zblk xs 166 91 [some (.inr (.inr (some p))), some (.inr (.inr v1)), some (.inl r2), some (.inl (v3 + 1))] [] h1)))) := (zx_unfold zblk xs 166 91 _ rfl _ _ _).trans rfl
theorem e_166_113 (xs : List Int) (p : Nat) (h : zH) : zx zblk xs 166 113 [some (.inr (.inr (some p)))] [] h = (zgi h (some p) 2 1 fun f1 => (if zw 1000000 ≤ zw f1 then zx zblk xs 166 129 [] [] h else (zgi h (some p) 2 1 fun f2 => zx zblk xs 166 130 [] [.inl f2] h))) := (zx_unfold zblk xs 166 113 _ rfl _ _ _).trans rfl
theorem e_166_129 (xs : List Int)  (h : zH) : zx zblk xs 166 129 [] [] h = zx zblk xs 166 130 [] [.inl (-1)] h := (zx_unfold zblk xs 166 129 _ rfl _ _ _).trans rfl
theorem e_166_130 (xs : List Int) (s0 : Int) (h : zH) : zx zblk xs 166 130 [] [.inl s0] h = some (some (.inl s0), h) := (zx_unfold zblk xs 166 130 _ rfl _ _ _).trans rfl
/-- MindReaders$Readings.goOn(LMindReaders$Code;)Z -/
theorem e_167_0 (xs : List Int) (p : Nat) (v1 : Option Nat) (h : zH) : zx zblk xs 167 0 [some (.inr (.inr (some p))), some (.inr (.inr v1))] [] h = zx zblk xs 167 4 [some (.inr (.inr (some p))), some (.inr (.inr v1)), some (.inl 0), some (.inl 0)] [] h := (zx_unfold zblk xs 167 0 _ rfl _ _ _).trans rfl
theorem e_167_4 (xs : List Int) (p : Nat) (v1 : Option Nat) (v2 : Int) (v3 : Int) (h : zH) : zx zblk xs 167 4 [some (.inr (.inr (some p))), some (.inr (.inr v1)), some (.inl v2), some (.inl v3)] [] h = (if zw 80 ≤ zw v3 then zx zblk xs 167 73 [none, none, some (.inl v2)] [] h else (zgr h (some p) 2 0 fun f1 => (zck h f1 3 (zci (zx zblk xs 172 0 [some (.inr (.inr f1)), some (.inl v3)] [] h) fun r3 h2 => zx zblk xs 167 23 [some (.inr (.inr (some p))), some (.inr (.inr v1)), some (.inl v2), some (.inl v3), some (.inl r3), some (.inl 0)] [] h2)))) := (zx_unfold zblk xs 167 4 _ rfl _ _ _).trans rfl
theorem e_167_23 (xs : List Int) (p : Nat) (v1 : Option Nat) (v2 : Int) (v3 : Int) (v4 : Int) (v5 : Int) (h : zH) : zx zblk xs 167 23 [some (.inr (.inr (some p))), some (.inr (.inr v1)), some (.inl v2), some (.inl v3), some (.inl v4), some (.inl v5)] [] h = (zck h v1 0 (zci (zx zblk xs 148 0 [some (.inr (.inr v1))] [] h) fun r2 h1 => (if zw r2 ≤ zw v5 then zx zblk xs 167 67 [some (.inr (.inr (some p))), some (.inr (.inr v1)), some (.inl v2), some (.inl v3)] [] h1 else (if zw 1000000 ≤ zw v4 then zx zblk xs 167 67 [some (.inr (.inr (some p))), some (.inr (.inr v1)), some (.inl v2), some (.inl v3)] [] h1 else (if zw 10 = 0 then none else (if zw 10 = 0 then none else (zck h1 (some p) 2 (zci (zx zblk xs 168 0 [some (.inr (.inr (some p))), some (.inr (.inr v1)), some (.inl ((zw v3).tdiv (zw 10))), some (.inl ((zw v3).tmod (zw 10))), some (.inl v5), some (.inl v4)] [] h1) fun r4 h3 => (if zw r4 = 0 then zx zblk xs 167 61 [some (.inr (.inr (some p))), some (.inr (.inr v1)), some (.inl v2), some (.inl v3), some (.inl v4), some (.inl v5)] [] h3 else zx zblk xs 167 61 [some (.inr (.inr (some p))), some (.inr (.inr v1)), some (.inl 1), some (.inl v3), some (.inl v4), some (.inl v5)] [] h3))))))))) := (zx_unfold zblk xs 167 23 _ rfl _ _ _).trans rfl
theorem e_167_61 (xs : List Int) (p : Nat) (v1 : Option Nat) (v2 : Int) (v3 : Int) (v4 : Int) (v5 : Int) (h : zH) : zx zblk xs 167 61 [some (.inr (.inr (some p))), some (.inr (.inr v1)), some (.inl v2), some (.inl v3), some (.inl v4), some (.inl v5)] [] h = zx zblk xs 167 23 [some (.inr (.inr (some p))), some (.inr (.inr v1)), some (.inl v2), some (.inl v3), some (.inl v4), some (.inl (v5 + 1))] [] h := (zx_unfold zblk xs 167 61 _ rfl _ _ _).trans rfl
theorem e_167_67 (xs : List Int) (p : Nat) (v1 : Option Nat) (v2 : Int) (v3 : Int) (h : zH) : zx zblk xs 167 67 [some (.inr (.inr (some p))), some (.inr (.inr v1)), some (.inl v2), some (.inl v3)] [] h = zx zblk xs 167 4 [some (.inr (.inr (some p))), some (.inr (.inr v1)), some (.inl v2), some (.inl (v3 + 1))] [] h := (zx_unfold zblk xs 167 67 _ rfl _ _ _).trans rfl
theorem e_167_73 (xs : List Int) (v2 : Int) (h : zH) : zx zblk xs 167 73 [none, none, some (.inl v2)] [] h = (if v2 = 0 ∨ v2 = 1 then some (some (.inl v2), h) else none) := (zx_unfold zblk xs 167 73 _ rfl _ _ _).trans rfl
/-- MindReaders$Readings.meet(LMindReaders$Code;IIII)Z -/
theorem e_168_0 (xs : List Int) (p : Nat) (v1 : Option Nat) (v2 : Int) (v3 : Int) (v4 : Int) (v5 : Int) (h : zH) : zx zblk xs 168 0 [some (.inr (.inr (some p))), some (.inr (.inr v1)), some (.inl v2), some (.inl v3), some (.inl v4), some (.inl v5)] [] h = (zck h v1 0 (zcr (zx zblk xs 150 0 [some (.inr (.inr v1)), some (.inl v2)] [] h) fun r2 h1 => (zck h1 v1 0 (zcr (zx zblk xs 150 0 [some (.inr (.inr v1)), some (.inl v4)] [] h1) fun r4 h3 => (zck h3 r2 3 (zci (zx zblk xs 171 0 [some (.inr (.inr r2))] [] h3) fun r6 h5 => (if zw (r6 - v3) ≤ 0 then zx zblk xs 168 37 [] [] h5 else (zck h5 r4 3 (zci (zx zblk xs 171 0 [some (.inr (.inr r4))] [] h5) fun r8 h7 => (if zw r8 ≠ 0 then zx zblk xs 168 39 [some (.inr (.inr (some p))), none, some (.inl v2), some (.inl v3), some (.inl v4), some (.inl v5), some (.inr (.inr r2)), some (.inr (.inr r4)), some (.inl (r6 - v3))] [] h7 else zx zblk xs 168 37 [] [] h7)))))))))) := (zx_unfold zblk xs 168 0 _ rfl _ _ _).trans rfl
theorem e_168_37 (xs : List Int)  (h : zH) : zx zblk xs 168 37 [] [] h = (if 0 = 0 ∨ 0 = 1 then some (some (.inl 0), h) else none) := (zx_unfold zblk xs 168 37 _ rfl _ _ _).trans rfl
theorem e_168_39 (xs : List Int) (p : Nat) (v2 : Int) (v3 : Int) (v4 : Int) (v5 : Int) (v6 : Option Nat) (v7 : Option Nat) (v8 : Int) (h : zH) : zx zblk xs 168 39 [some (.inr (.inr (some p))), none, some (.inl v2), some (.inl v3), some (.inl v4), some (.inl v5), some (.inr (.inr v6)), some (.inr (.inr v7)), some (.inl v8)] [] h = zx zblk xs 168 42 [some (.inr (.inr (some p))), none, some (.inl v2), some (.inl v3), some (.inl v4), some (.inl v5), some (.inr (.inr v6)), some (.inr (.inr v7)), some (.inl v8), some (.inl 0)] [] h := (zx_unfold zblk xs 168 39 _ rfl _ _ _).trans rfl
theorem e_168_42 (xs : List Int) (p : Nat) (v2 : Int) (v3 : Int) (v4 : Int) (v5 : Int) (v6 : Option Nat) (v7 : Option Nat) (v8 : Int) (v9 : Int) (h : zH) : zx zblk xs 168 42 [some (.inr (.inr (some p))), none, some (.inl v2), some (.inl v3), some (.inl v4), some (.inl v5), some (.inr (.inr v6)), some (.inr (.inr v7)), some (.inl v8), some (.inl v9)] [] h = (if zw v8 ≤ zw v9 then zx zblk xs 168 86 [some (.inr (.inr (some p))), none, some (.inl v2), some (.inl v3), some (.inl v4), some (.inl v5), none, some (.inr (.inr v7)), some (.inl v8)] [] h else (zck h v7 3 (zci (zx zblk xs 171 0 [some (.inr (.inr v7))] [] h) fun r2 h1 => (if zw r2 ≤ zw v9 then zx zblk xs 168 86 [some (.inr (.inr (some p))), none, some (.inl v2), some (.inl v3), some (.inl v4), some (.inl v5), none, some (.inr (.inr v7)), some (.inl v8)] [] h1 else (zck h1 v6 3 (zci (zx zblk xs 172 0 [some (.inr (.inr v6)), some (.inl (v3 + v9))] [] h1) fun r4 h3 => (zck h3 v7 3 (zci (zx zblk xs 172 0 [some (.inr (.inr v7)), some (.inl v9)] [] h3) fun r6 h5 => (if zw r4 = zw r6 then zx zblk xs 168 80 [some (.inr (.inr (some p))), none, some (.inl v2), some (.inl v3), some (.inl v4), some (.inl v5), some (.inr (.inr v6)), some (.inr (.inr v7)), some (.inl v8), some (.inl v9)] [] h5 else (if 0 = 0 ∨ 0 = 1 then some (some (.inl 0), h5) else none)))))))))) := (zx_unfold zblk xs 168 42 _ rfl _ _ _).trans rfl
theorem e_168_80 (xs : List Int) (p : Nat) (v2 : Int) (v3 : Int) (v4 : Int) (v5 : Int) (v6 : Option Nat) (v7 : Option Nat) (v8 : Int) (v9 : Int) (h : zH) : zx zblk xs 168 80 [some (.inr (.inr (some p))), none, some (.inl v2), some (.inl v3), some (.inl v4), some (.inl v5), some (.inr (.inr v6)), some (.inr (.inr v7)), some (.inl v8), some (.inl v9)] [] h = zx zblk xs 168 42 [some (.inr (.inr (some p))), none, some (.inl v2), some (.inl v3), some (.inl v4), some (.inl v5), some (.inr (.inr v6)), some (.inr (.inr v7)), some (.inl v8), some (.inl (v9 + 1))] [] h := (zx_unfold zblk xs 168 80 _ rfl _ _ _).trans rfl
theorem e_168_86 (xs : List Int) (p : Nat) (v2 : Int) (v3 : Int) (v4 : Int) (v5 : Int) (v7 : Option Nat) (v8 : Int) (h : zH) : zx zblk xs 168 86 [some (.inr (.inr (some p))), none, some (.inl v2), some (.inl v3), some (.inl v4), some (.inl v5), none, some (.inr (.inr v7)), some (.inl v8)] [] h = (zck h v7 3 (zci (zx zblk xs 171 0 [some (.inr (.inr v7))] [] h) fun r2 h1 => (if zw v8 ≠ zw r2 then zx zblk xs 168 111 [some (.inr (.inr (some p))), none, some (.inl v2), some (.inl v3), some (.inl v4), some (.inl v5), none, some (.inr (.inr v7)), some (.inl v8)] [] h1 else (zgi h1 (some p) 2 1 fun f3 => (zpf h1 (some p) 2 1 (.inl (if zw v5 < zw f3 then v5 else f3)) fun h4 => (if 0 = 0 ∨ 0 = 1 then some (some (.inl 0), h4) else none)))))) := (zx_unfold zblk xs 168 86 _ rfl _ _ _).trans rfl
theorem e_168_111 (xs : List Int) (p : Nat) (v2 : Int) (v3 : Int) (v4 : Int) (v5 : Int) (v7 : Option Nat) (v8 : Int) (h : zH) : zx zblk xs 168 111 [some (.inr (.inr (some p))), none, some (.inl v2), some (.inl v3), some (.inl v4), some (.inl v5), none, some (.inr (.inr v7)), some (.inl v8)] [] h = (zck h v7 3 (zci (zx zblk xs 171 0 [some (.inr (.inr v7))] [] h) fun r2 h1 => (if zw v8 ≤ zw r2 then zx zblk xs 168 136 [some (.inr (.inr (some p))), none, none, none, some (.inl v4), some (.inl v5), none, some (.inr (.inr v7)), some (.inl v8)] [] h1 else (zck h1 v7 3 (zci (zx zblk xs 171 0 [some (.inr (.inr v7))] [] h1) fun r4 h3 => (zck h3 (some p) 2 (zci (zx zblk xs 169 0 [some (.inr (.inr (some p))), some (.inl v2), some (.inl (v3 + r4)), some (.inl v5)] [] h3) fun r6 h5 => (if r6 = 0 ∨ r6 = 1 then some (some (.inl r6), h5) else none)))))))) := (zx_unfold zblk xs 168 111 _ rfl _ _ _).trans rfl
theorem e_168_136 (xs : List Int) (p : Nat) (v4 : Int) (v5 : Int) (v7 : Option Nat) (v8 : Int) (h : zH) : zx zblk xs 168 136 [some (.inr (.inr (some p))), none, none, none, some (.inl v4), some (.inl v5), none, some (.inr (.inr v7)), some (.inl v8)] [] h = (zck h v7 3 (zci (zx zblk xs 171 0 [some (.inr (.inr v7))] [] h) fun r2 h1 => (zck h1 (some p) 2 (zci (zx zblk xs 169 0 [some (.inr (.inr (some p))), some (.inl v4), some (.inl v8), some (.inl ((v5 + r2) - v8))] [] h1) fun r4 h3 => (if r4 = 0 ∨ r4 = 1 then some (some (.inl r4), h3) else none))))) := (zx_unfold zblk xs 168 136 _ rfl _ _ _).trans rfl
/-- MindReaders$Readings.comeTo(III)Z -/
theorem e_169_0 (xs : List Int) (p : Nat) (v1 : Int) (v2 : Int) (v3 : Int) (h : zH) : zx zblk xs 169 0 [some (.inr (.inr (some p))), some (.inl v1), some (.inl v2), some (.inl v3)] [] h = (zgr h (some p) 2 0 fun f1 => (zck h f1 3 (zci (zx zblk xs 172 0 [some (.inr (.inr f1)), some (.inl ((v1 * 10) + v2))] [] h) fun r3 h2 => (if zw v3 < zw r3 then zx zblk xs 169 23 [some (.inr (.inr (some p))), none, none, some (.inl v3), some (.inl ((v1 * 10) + v2))] [] h2 else (if 0 = 0 ∨ 0 = 1 then some (some (.inl 0), h2) else none))))) := (zx_unfold zblk xs 169 0 _ rfl _ _ _).trans rfl
theorem e_169_23 (xs : List Int) (p : Nat) (v3 : Int) (v4 : Int) (h : zH) : zx zblk xs 169 23 [some (.inr (.inr (some p))), none, none, some (.inl v3), some (.inl v4)] [] h = (zgr h (some p) 2 0 fun f1 => (zck h f1 3 (zcv (zx zblk xs 173 0 [some (.inr (.inr f1)), some (.inl v4), some (.inl v3)] [] h) fun h2 => (if 1 = 0 ∨ 1 = 1 then some (some (.inl 1), h2) else none)))) := (zx_unfold zblk xs 169 23 _ rfl _ _ _).trans rfl
/-- MindReaders$Row.size()I -/
theorem e_171_0 (xs : List Int) (p : Nat) (h : zH) : zx zblk xs 171 0 [some (.inr (.inr (some p)))] [] h = (zgi h (some p) 3 1 fun f1 => some (some (.inl f1), h)) := (zx_unfold zblk xs 171 0 _ rfl _ _ _).trans rfl
/-- MindReaders$Row.at(I)I -/
theorem e_172_0 (xs : List Int) (p : Nat) (v1 : Int) (h : zH) : zx zblk xs 172 0 [some (.inr (.inr (some p))), some (.inl v1)] [] h = (if zw v1 < 0 then zx zblk xs 172 30 [] [] h else (zgi h (some p) 3 1 fun f1 => (if zw f1 ≤ zw v1 then zx zblk xs 172 30 [] [] h else (zgr h (some p) 3 0 fun f2 => (zln xs h f2 fun n3 => (if zw n3 ≤ zw v1 then zx zblk xs 172 30 [] [] h else (zgr h (some p) 3 0 fun f4 => (zai xs h f4 v1 fun a5 => zx zblk xs 172 31 [] [.inl a5] h)))))))) := (zx_unfold zblk xs 172 0 _ rfl _ _ _).trans rfl
theorem e_172_30 (xs : List Int)  (h : zH) : zx zblk xs 172 30 [] [] h = zx zblk xs 172 31 [] [.inl (-1)] h := (zx_unfold zblk xs 172 30 _ rfl _ _ _).trans rfl
theorem e_172_31 (xs : List Int) (s0 : Int) (h : zH) : zx zblk xs 172 31 [] [.inl s0] h = some (some (.inl s0), h) := (zx_unfold zblk xs 172 31 _ rfl _ _ _).trans rfl
/-- MindReaders$Row.set(II)V -/
theorem e_173_0 (xs : List Int) (p : Nat) (v1 : Int) (v2 : Int) (h : zH) : zx zblk xs 173 0 [some (.inr (.inr (some p))), some (.inl v1), some (.inl v2)] [] h = (if zw v1 < 0 then zx zblk xs 173 28 [] [] h else (zgi h (some p) 3 1 fun f1 => (if zw f1 ≤ zw v1 then zx zblk xs 173 28 [] [] h else (zgr h (some p) 3 0 fun f2 => (zln xs h f2 fun n3 => (if zw n3 ≤ zw v1 then zx zblk xs 173 28 [] [] h else (zgr h (some p) 3 0 fun f4 => (zst h f4 100 v1 (.inl v2) fun h5 => zx zblk xs 173 28 [] [] h5)))))))) := (zx_unfold zblk xs 173 0 _ rfl _ _ _).trans rfl
theorem e_173_28 (xs : List Int)  (h : zH) : zx zblk xs 173 28 [] [] h = some (none, h) := (zx_unfold zblk xs 173 28 _ rfl _ _ _).trans rfl
/-- MindReaders$Row.add(I)V -/
theorem e_174_0 (xs : List Int) (p : Nat) (v1 : Int) (h : zH) : zx zblk xs 174 0 [some (.inr (.inr (some p))), some (.inl v1)] [] h = (zgi h (some p) 3 1 fun f1 => (if zw f1 < 0 then zx zblk xs 174 39 [] [] h else (zgi h (some p) 3 1 fun f2 => (zgr h (some p) 3 0 fun f3 => (zln xs h f3 fun n4 => (if zw n4 ≤ zw f2 then zx zblk xs 174 39 [] [] h else (zgr h (some p) 3 0 fun f5 => (zgi h (some p) 3 1 fun f6 => (zst h f5 100 f6 (.inl v1) fun h7 => (zgi h7 (some p) 3 1 fun f8 => (zpf h7 (some p) 3 1 (.inl (f8 + 1)) fun h9 => zx zblk xs 174 39 [] [] h9))))))))))) := (zx_unfold zblk xs 174 0 _ rfl _ _ _).trans rfl
theorem e_174_39 (xs : List Int)  (h : zH) : zx zblk xs 174 39 [] [] h = some (none, h) := (zx_unfold zblk xs 174 39 _ rfl _ _ _).trans rfl
/-- MindReaders$Row.dropLast()V -/
theorem e_175_0 (xs : List Int) (p : Nat) (h : zH) : zx zblk xs 175 0 [some (.inr (.inr (some p)))] [] h = (zgi h (some p) 3 1 fun f1 => (if zw f1 ≤ 0 then zx zblk xs 175 17 [] [] h else (zgi h (some p) 3 1 fun f2 => (zpf h (some p) 3 1 (.inl (f2 - 1)) fun h3 => zx zblk xs 175 17 [] [] h3)))) := (zx_unfold zblk xs 175 0 _ rfl _ _ _).trans rfl
theorem e_175_17 (xs : List Int)  (h : zH) : zx zblk xs 175 17 [] [] h = some (none, h) := (zx_unfold zblk xs 175 17 _ rfl _ _ _).trans rfl
/-- MindReaders$Row.wipe()V -/
theorem e_176_0 (xs : List Int) (p : Nat) (h : zH) : zx zblk xs 176 0 [some (.inr (.inr (some p)))] [] h = (zpf h (some p) 3 1 (.inl 0) fun h1 => some (none, h1)) := (zx_unfold zblk xs 176 0 _ rfl _ _ _).trans rfl
/-- MindReaders$Row.copyOf(LMindReaders$Row;)V -/
theorem e_177_0 (xs : List Int) (p : Nat) (v1 : Option Nat) (h : zH) : zx zblk xs 177 0 [some (.inr (.inr (some p))), some (.inr (.inr v1))] [] h = (zck h (some p) 3 (zcv (zx zblk xs 176 0 [some (.inr (.inr (some p)))] [] h) fun h1 => zx zblk xs 177 6 [some (.inr (.inr (some p))), some (.inr (.inr v1)), some (.inl 0)] [] h1)) := (zx_unfold zblk xs 177 0 _ rfl _ _ _).trans rfl
theorem e_177_6 (xs : List Int) (p : Nat) (v1 : Option Nat) (v2 : Int) (h : zH) : zx zblk xs 177 6 [some (.inr (.inr (some p))), some (.inr (.inr v1)), some (.inl v2)] [] h = (zck h v1 3 (zci (zx zblk xs 171 0 [some (.inr (.inr v1))] [] h) fun r2 h1 => (if zw r2 ≤ zw v2 then zx zblk xs 177 29 [] [] h1 else (zck h1 v1 3 (zci (zx zblk xs 172 0 [some (.inr (.inr v1)), some (.inl v2)] [] h1) fun r4 h3 => (zck h3 (some p) 3 (zcv (zx zblk xs 174 0 [some (.inr (.inr (some p))), some (.inl r4)] [] h3) fun h5 => zx zblk xs 177 6 [some (.inr (.inr (some p))), some (.inr (.inr v1)), some (.inl (v2 + 1))] [] h5))))))) := (zx_unfold zblk xs 177 6 _ rfl _ _ _).trans rfl
theorem e_177_29 (xs : List Int)  (h : zH) : zx zblk xs 177 29 [] [] h = some (none, h) := (zx_unfold zblk xs 177 29 _ rfl _ _ _).trans rfl
/-- MindReaders$Row.isLike(LMindReaders$Row;)Z -/
theorem e_178_0 (xs : List Int) (p : Nat) (v1 : Option Nat) (h : zH) : zx zblk xs 178 0 [some (.inr (.inr (some p))), some (.inr (.inr v1))] [] h = (zgi h (some p) 3 1 fun f1 => (zck h v1 3 (zci (zx zblk xs 171 0 [some (.inr (.inr v1))] [] h) fun r3 h2 => (if zw f1 ≠ zw r3 then zx zblk xs 178 23 [] [] h2 else (zck h2 (some p) 3 (zci (zx zblk xs 179 0 [some (.inr (.inr (some p))), some (.inr (.inr v1))] [] h2) fun r5 h4 => (if zw r5 = 0 then zx zblk xs 178 23 [] [] h4 else zx zblk xs 178 24 [] [.inl 1] h4))))))) := (zx_unfold zblk xs 178 0 _ rfl _ _ _).trans rfl
theorem e_178_23 (xs : List Int)  (h : zH) : zx zblk xs 178 23 [] [] h = zx zblk xs 178 24 [] [.inl 0] h := (zx_unfold zblk xs 178 23 _ rfl _ _ _).trans rfl
theorem e_178_24 (xs : List Int) (s0 : Int) (h : zH) : zx zblk xs 178 24 [] [.inl s0] h = (if s0 = 0 ∨ s0 = 1 then some (some (.inl s0), h) else none) := (zx_unfold zblk xs 178 24 _ rfl _ _ _).trans rfl
/-- MindReaders$Row.isStartOf(LMindReaders$Row;)Z -/
theorem e_179_0 (xs : List Int) (p : Nat) (v1 : Option Nat) (h : zH) : zx zblk xs 179 0 [some (.inr (.inr (some p))), some (.inr (.inr v1))] [] h = zx zblk xs 179 2 [some (.inr (.inr (some p))), some (.inr (.inr v1)), some (.inl 0)] [] h := (zx_unfold zblk xs 179 0 _ rfl _ _ _).trans rfl
theorem e_179_2 (xs : List Int) (p : Nat) (v1 : Option Nat) (v2 : Int) (h : zH) : zx zblk xs 179 2 [some (.inr (.inr (some p))), some (.inr (.inr v1)), some (.inl v2)] [] h = (zgi h (some p) 3 1 fun f1 => (if zw f1 ≤ zw v2 then zx zblk xs 179 31 [] [] h else (zck h (some p) 3 (zci (zx zblk xs 172 0 [some (.inr (.inr (some p))), some (.inl v2)] [] h) fun r3 h2 => (zck h2 v1 3 (zci (zx zblk xs 172 0 [some (.inr (.inr v1)), some (.inl v2)] [] h2) fun r5 h4 => (if zw r3 = zw r5 then zx zblk xs 179 25 [some (.inr (.inr (some p))), some (.inr (.inr v1)), some (.inl v2)] [] h4 else (if 0 = 0 ∨ 0 = 1 then some (some (.inl 0), h4) else none)))))))) := (zx_unfold zblk xs 179 2 _ rfl _ _ _).trans rfl
theorem e_179_25 (xs : List Int) (p : Nat) (v1 : Option Nat) (v2 : Int) (h : zH) : zx zblk xs 179 25 [some (.inr (.inr (some p))), some (.inr (.inr v1)), some (.inl v2)] [] h = zx zblk xs 179 2 [some (.inr (.inr (some p))), some (.inr (.inr v1)), some (.inl (v2 + 1))] [] h := (zx_unfold zblk xs 179 25 _ rfl _ _ _).trans rfl
theorem e_179_31 (xs : List Int)  (h : zH) : zx zblk xs 179 31 [] [] h = (if 1 = 0 ∨ 1 = 1 then some (some (.inl 1), h) else none) := (zx_unfold zblk xs 179 31 _ rfl _ _ _).trans rfl
/-- MindReaders$Row.placesApart(LMindReaders$Row;)I -/
theorem e_180_0 (xs : List Int) (p : Nat) (v1 : Option Nat) (h : zH) : zx zblk xs 180 0 [some (.inr (.inr (some p))), some (.inr (.inr v1))] [] h = zx zblk xs 180 4 [some (.inr (.inr (some p))), some (.inr (.inr v1)), some (.inl 0), some (.inl 0)] [] h := (zx_unfold zblk xs 180 0 _ rfl _ _ _).trans rfl
theorem e_180_4 (xs : List Int) (p : Nat) (v1 : Option Nat) (v2 : Int) (v3 : Int) (h : zH) : zx zblk xs 180 4 [some (.inr (.inr (some p))), some (.inr (.inr v1)), some (.inl v2), some (.inl v3)] [] h = (zgi h (some p) 3 1 fun f1 => (if zw f1 ≤ zw v3 then zx zblk xs 180 34 [none, none, some (.inl v2)] [] h else (zck h (some p) 3 (zci (zx zblk xs 172 0 [some (.inr (.inr (some p))), some (.inl v3)] [] h) fun r3 h2 => (zck h2 v1 3 (zci (zx zblk xs 172 0 [some (.inr (.inr v1)), some (.inl v3)] [] h2) fun r5 h4 => (if zw r3 = zw r5 then zx zblk xs 180 28 [some (.inr (.inr (some p))), some (.inr (.inr v1)), some (.inl v2), some (.inl v3)] [] h4 else zx zblk xs 180 28 [some (.inr (.inr (some p))), some (.inr (.inr v1)), some (.inl (v2 + 1)), some (.inl v3)] [] h4))))))) := (zx_unfold zblk xs 180 4 _ rfl _ _ _).trans rfl
theorem e_180_28 (xs : List Int) (p : Nat) (v1 : Option Nat) (v2 : Int) (v3 : Int) (h : zH) : zx zblk xs 180 28 [some (.inr (.inr (some p))), some (.inr (.inr v1)), some (.inl v2), some (.inl v3)] [] h = zx zblk xs 180 4 [some (.inr (.inr (some p))), some (.inr (.inr v1)), some (.inl v2), some (.inl (v3 + 1))] [] h := (zx_unfold zblk xs 180 28 _ rfl _ _ _).trans rfl
theorem e_180_34 (xs : List Int) (v2 : Int) (h : zH) : zx zblk xs 180 34 [none, none, some (.inl v2)] [] h = some (some (.inl v2), h) := (zx_unfold zblk xs 180 34 _ rfl _ _ _).trans rfl
/-- MindReaders$Row.isBelow(I)Z -/
theorem e_181_0 (xs : List Int) (p : Nat) (v1 : Int) (h : zH) : zx zblk xs 181 0 [some (.inr (.inr (some p))), some (.inl v1)] [] h = zx zblk xs 181 2 [some (.inr (.inr (some p))), some (.inl v1), some (.inl 0)] [] h := (zx_unfold zblk xs 181 0 _ rfl _ _ _).trans rfl
theorem e_181_2 (xs : List Int) (p : Nat) (v1 : Int) (v2 : Int) (h : zH) : zx zblk xs 181 2 [some (.inr (.inr (some p))), some (.inl v1), some (.inl v2)] [] h = (zgi h (some p) 3 1 fun f1 => (if zw f1 ≤ zw v2 then zx zblk xs 181 27 [] [] h else (zck h (some p) 3 (zci (zx zblk xs 172 0 [some (.inr (.inr (some p))), some (.inl v2)] [] h) fun r3 h2 => (if zw r3 < zw v1 then zx zblk xs 181 21 [some (.inr (.inr (some p))), some (.inl v1), some (.inl v2)] [] h2 else (if 0 = 0 ∨ 0 = 1 then some (some (.inl 0), h2) else none)))))) := (zx_unfold zblk xs 181 2 _ rfl _ _ _).trans rfl
theorem e_181_21 (xs : List Int) (p : Nat) (v1 : Int) (v2 : Int) (h : zH) : zx zblk xs 181 21 [some (.inr (.inr (some p))), some (.inl v1), some (.inl v2)] [] h = zx zblk xs 181 2 [some (.inr (.inr (some p))), some (.inl v1), some (.inl (v2 + 1))] [] h := (zx_unfold zblk xs 181 21 _ rfl _ _ _).trans rfl
theorem e_181_27 (xs : List Int)  (h : zH) : zx zblk xs 181 27 [] [] h = (if 1 = 0 ∨ 1 = 1 then some (some (.inl 1), h) else none) := (zx_unfold zblk xs 181 27 _ rfl _ _ _).trans rfl
/-- MindReaders$Row.sumOf(I)I -/
theorem e_182_0 (xs : List Int) (p : Nat) (v1 : Int) (h : zH) : zx zblk xs 182 0 [some (.inr (.inr (some p))), some (.inl v1)] [] h = zx zblk xs 182 4 [some (.inr (.inr (some p))), some (.inl v1), some (.inl 0), some (.inl 0)] [] h := (zx_unfold zblk xs 182 0 _ rfl _ _ _).trans rfl
theorem e_182_4 (xs : List Int) (p : Nat) (v1 : Int) (v2 : Int) (v3 : Int) (h : zH) : zx zblk xs 182 4 [some (.inr (.inr (some p))), some (.inl v1), some (.inl v2), some (.inl v3)] [] h = (if zw v1 ≤ zw v3 then zx zblk xs 182 31 [none, none, some (.inl v2)] [] h else (zgi h (some p) 3 1 fun f1 => (if zw f1 ≤ zw v3 then zx zblk xs 182 31 [none, none, some (.inl v2)] [] h else (zck h (some p) 3 (zci (zx zblk xs 172 0 [some (.inr (.inr (some p))), some (.inl v3)] [] h) fun r3 h2 => zx zblk xs 182 4 [some (.inr (.inr (some p))), some (.inl v1), some (.inl (v2 + r3)), some (.inl (v3 + 1))] [] h2))))) := (zx_unfold zblk xs 182 4 _ rfl _ _ _).trans rfl
theorem e_182_31 (xs : List Int) (v2 : Int) (h : zH) : zx zblk xs 182 31 [none, none, some (.inl v2)] [] h = some (some (.inl v2), h) := (zx_unfold zblk xs 182 31 _ rfl _ _ _).trans rfl
/-- MindReaders$Row.takeLeast()I -/
theorem e_183_0 (xs : List Int) (p : Nat) (h : zH) : zx zblk xs 183 0 [some (.inr (.inr (some p)))] [] h = (zgi h (some p) 3 1 fun f1 => (if 0 < zw f1 then zx zblk xs 183 9 [some (.inr (.inr (some p)))] [] h else some (some (.inl 0), h))) := (zx_unfold zblk xs 183 0 _ rfl _ _ _).trans rfl
theorem e_183_9 (xs : List Int) (p : Nat) (h : zH) : zx zblk xs 183 9 [some (.inr (.inr (some p)))] [] h = zx zblk xs 183 13 [some (.inr (.inr (some p))), some (.inl 0), some (.inl 1)] [] h := (zx_unfold zblk xs 183 9 _ rfl _ _ _).trans rfl
theorem e_183_13 (xs : List Int) (p : Nat) (v1 : Int) (v2 : Int) (h : zH) : zx zblk xs 183 13 [some (.inr (.inr (some p))), some (.inl v1), some (.inl v2)] [] h = (zgi h (some p) 3 1 fun f1 => (if zw f1 ≤ zw v2 then zx zblk xs 183 42 [some (.inr (.inr (some p))), some (.inl v1)] [] h else (zck h (some p) 3 (zci (zx zblk xs 172 0 [some (.inr (.inr (some p))), some (.inl v2)] [] h) fun r3 h2 => (zck h2 (some p) 3 (zci (zx zblk xs 172 0 [some (.inr (.inr (some p))), some (.inl v1)] [] h2) fun r5 h4 => (if zw r5 ≤ zw r3 then zx zblk xs 183 36 [some (.inr (.inr (some p))), some (.inl v1), some (.inl v2)] [] h4 else zx zblk xs 183 36 [some (.inr (.inr (some p))), some (.inl v2), some (.inl v2)] [] h4))))))) := (zx_unfold zblk xs 183 13 _ rfl _ _ _).trans rfl
theorem e_183_36 (xs : List Int) (p : Nat) (v1 : Int) (v2 : Int) (h : zH) : zx zblk xs 183 36 [some (.inr (.inr (some p))), some (.inl v1), some (.inl v2)] [] h = zx zblk xs 183 13 [some (.inr (.inr (some p))), some (.inl v1), some (.inl (v2 + 1))] [] h := (zx_unfold zblk xs 183 36 _ rfl _ _ _).trans rfl
theorem e_183_42 (xs : List Int) (p : Nat) (v1 : Int) (h : zH) : zx zblk xs 183 42 [some (.inr (.inr (some p))), some (.inl v1)] [] h = (zck h (some p) 3 (zci (zx zblk xs 172 0 [some (.inr (.inr (some p))), some (.inl v1)] [] h) fun r2 h1 => (zgi h1 (some p) 3 1 fun f3 => (zck h1 (some p) 3 (zci (zx zblk xs 172 0 [some (.inr (.inr (some p))), some (.inl (f3 - 1))] [] h1) fun r5 h4 => (zck h4 (some p) 3 (zcv (zx zblk xs 173 0 [some (.inr (.inr (some p))), some (.inl v1), some (.inl r5)] [] h4) fun h6 => (zck h6 (some p) 3 (zcv (zx zblk xs 175 0 [some (.inr (.inr (some p)))] [] h6) fun h7 => some (some (.inl r2), h7)))))))))) := (zx_unfold zblk xs 183 42 _ rfl _ _ _).trans rfl
/-- MindReaders$Row.turn(I)V -/
theorem e_184_0 (xs : List Int) (p : Nat) (v1 : Int) (h : zH) : zx zblk xs 184 0 [some (.inr (.inr (some p))), some (.inl v1)] [] h = zx zblk xs 184 2 [some (.inr (.inr (some p))), some (.inl v1), some (.inl 0)] [] h := (zx_unfold zblk xs 184 0 _ rfl _ _ _).trans rfl
theorem e_184_2 (xs : List Int) (p : Nat) (v1 : Int) (v2 : Int) (h : zH) : zx zblk xs 184 2 [some (.inr (.inr (some p))), some (.inl v1), some (.inl v2)] [] h = (zgi h (some p) 3 1 fun f1 => (if zw f1 ≤ zw v2 then zx zblk xs 184 42 [] [] h else (zck h (some p) 3 (zci (zx zblk xs 172 0 [some (.inr (.inr (some p))), some (.inl v2)] [] h) fun r3 h2 => (if zw v1 ≤ zw (r3 + 1) then zx zblk xs 184 30 [some (.inr (.inr (some p))), some (.inl v1), some (.inl v2)] [] h2 else (zck h2 (some p) 3 (zcv (zx zblk xs 173 0 [some (.inr (.inr (some p))), some (.inl v2), some (.inl (r3 + 1))] [] h2) fun h4 => some (none, h4)))))))) := (zx_unfold zblk xs 184 2 _ rfl _ _ _).trans rfl
theorem e_184_30 (xs : List Int) (p : Nat) (v1 : Int) (v2 : Int) (h : zH) : zx zblk xs 184 30 [some (.inr (.inr (some p))), some (.inl v1), some (.inl v2)] [] h = (zck h (some p) 3 (zcv (zx zblk xs 173 0 [some (.inr (.inr (some p))), some (.inl v2), some (.inl 0)] [] h) fun h1 => zx zblk xs 184 2 [some (.inr (.inr (some p))), some (.inl v1), some (.inl (v2 + 1))] [] h1)) := (zx_unfold zblk xs 184 30 _ rfl _ _ _).trans rfl
theorem e_184_42 (xs : List Int)  (h : zH) : zx zblk xs 184 42 [] [] h = some (none, h) := (zx_unfold zblk xs 184 42 _ rfl _ _ _).trans rfl
/-- MindReaders$Rows.row(I)LMindReaders$Row; -/
theorem e_186_0 (xs : List Int) (p : Nat) (v1 : Int) (h : zH) : zx zblk xs 186 0 [some (.inr (.inr (some p))), some (.inl v1)] [] h = (if zw v1 < 0 then zx zblk xs 186 22 [some (.inr (.inr (some p)))] [] h else (zgr h (some p) 4 0 fun f1 => (zln xs h f1 fun n2 => (if zw n2 ≤ zw v1 then zx zblk xs 186 22 [some (.inr (.inr (some p)))] [] h else (zgr h (some p) 4 0 fun f3 => (zaa xs h f3 105 v1 fun a4 => zx zblk xs 186 23 [some (.inr (.inr (some p)))] [.inr (.inr a4)] h)))))) := (zx_unfold zblk xs 186 0 _ rfl _ _ _).trans rfl
theorem e_186_22 (xs : List Int) (p : Nat) (h : zH) : zx zblk xs 186 22 [some (.inr (.inr (some p)))] [] h = zx zblk xs 186 23 [some (.inr (.inr (some p)))] [.inr (.inr none)] h := (zx_unfold zblk xs 186 22 _ rfl _ _ _).trans rfl
theorem e_186_23 (xs : List Int) (p : Nat) (s0 : Option Nat) (h : zH) : zx zblk xs 186 23 [some (.inr (.inr (some p)))] [.inr (.inr s0)] h = (zif s0 ((zgr h (some p) 4 1 fun f1 => zx zblk xs 186 36 [] [.inr (.inr f1)] h)) (zx zblk xs 186 35 [none, none, some (.inr (.inr s0))] [] h)) := (zx_unfold zblk xs 186 23 _ rfl _ _ _).trans rfl
theorem e_186_35 (xs : List Int) (v2 : Option Nat) (h : zH) : zx zblk xs 186 35 [none, none, some (.inr (.inr v2))] [] h = zx zblk xs 186 36 [] [.inr (.inr v2)] h := (zx_unfold zblk xs 186 35 _ rfl _ _ _).trans rfl
theorem e_186_36 (xs : List Int) (s0 : Option Nat) (h : zH) : zx zblk xs 186 36 [] [.inr (.inr s0)] h = some (some (.inr (.inr s0)), h) := (zx_unfold zblk xs 186 36 _ rfl _ _ _).trans rfl
/-- MindReaders$Signals.told()I -/
theorem e_188_0 (xs : List Int) (p : Nat) (h : zH) : zx zblk xs 188 0 [some (.inr (.inr (some p)))] [] h = (zgr h (some p) 5 0 fun f1 => (zck h f1 3 (zci (zx zblk xs 171 0 [some (.inr (.inr f1))] [] h) fun r3 h2 => some (some (.inl r3), h2)))) := (zx_unfold zblk xs 188 0 _ rfl _ _ _).trans rfl
/-- MindReaders$Signals.isTold(I)Z -/
theorem e_189_0 (xs : List Int) (p : Nat) (v1 : Int) (h : zH) : zx zblk xs 189 0 [some (.inr (.inr (some p))), some (.inl v1)] [] h = (if zw v1 < 0 then zx zblk xs 189 19 [] [] h else (zgr h (some p) 5 0 fun f1 => (zck h f1 3 (zci (zx zblk xs 171 0 [some (.inr (.inr f1))] [] h) fun r3 h2 => (if zw r3 ≤ zw v1 then zx zblk xs 189 19 [] [] h2 else zx zblk xs 189 20 [] [.inl 1] h2))))) := (zx_unfold zblk xs 189 0 _ rfl _ _ _).trans rfl
theorem e_189_19 (xs : List Int)  (h : zH) : zx zblk xs 189 19 [] [] h = zx zblk xs 189 20 [] [.inl 0] h := (zx_unfold zblk xs 189 19 _ rfl _ _ _).trans rfl
theorem e_189_20 (xs : List Int) (s0 : Int) (h : zH) : zx zblk xs 189 20 [] [.inl s0] h = (if s0 = 0 ∨ s0 = 1 then some (some (.inl s0), h) else none) := (zx_unfold zblk xs 189 20 _ rfl _ _ _).trans rfl
/-- MindReaders$Signals.tell(IIII)V -/
theorem e_190_0 (xs : List Int) (p : Nat) (v1 : Int) (v2 : Int) (v3 : Int) (v4 : Int) (h : zH) : zx zblk xs 190 0 [some (.inr (.inr (some p))), some (.inl v1), some (.inl v2), some (.inl v3), some (.inl v4)] [] h = (zgr h (some p) 5 0 fun f1 => (zck h f1 3 (zcv (zx zblk xs 174 0 [some (.inr (.inr f1)), some (.inl v1)] [] h) fun h2 => (zgr h2 (some p) 5 1 fun f3 => (zck h2 f3 3 (zcv (zx zblk xs 174 0 [some (.inr (.inr f3)), some (.inl v2)] [] h2) fun h4 => (zgr h4 (some p) 5 2 fun f5 => (zck h4 f5 3 (zcv (zx zblk xs 174 0 [some (.inr (.inr f5)), some (.inl v3)] [] h4) fun h6 => (zgr h6 (some p) 5 3 fun f7 => (zck h6 f7 3 (zcv (zx zblk xs 174 0 [some (.inr (.inr f7)), some (.inl v4)] [] h6) fun h8 => some (none, h8))))))))))))) := (zx_unfold zblk xs 190 0 _ rfl _ _ _).trans rfl
/-- MindReaders$Signals.kindOf(I)I -/
theorem e_191_0 (xs : List Int) (p : Nat) (v1 : Int) (h : zH) : zx zblk xs 191 0 [some (.inr (.inr (some p))), some (.inl v1)] [] h = (zgr h (some p) 5 0 fun f1 => (zck h f1 3 (zci (zx zblk xs 172 0 [some (.inr (.inr f1)), some (.inl v1)] [] h) fun r3 h2 => (if zw r3 ≠ zw (-1) then zx zblk xs 191 18 [none, none, some (.inl r3)] [] h2 else zx zblk xs 191 19 [] [.inl 0] h2)))) := (zx_unfold zblk xs 191 0 _ rfl _ _ _).trans rfl
theorem e_191_18 (xs : List Int) (v2 : Int) (h : zH) : zx zblk xs 191 18 [none, none, some (.inl v2)] [] h = zx zblk xs 191 19 [] [.inl v2] h := (zx_unfold zblk xs 191 18 _ rfl _ _ _).trans rfl
theorem e_191_19 (xs : List Int) (s0 : Int) (h : zH) : zx zblk xs 191 19 [] [.inl s0] h = some (some (.inl s0), h) := (zx_unfold zblk xs 191 19 _ rfl _ _ _).trans rfl
/-- MindReaders$Signals.toneOf(I)I -/
theorem e_192_0 (xs : List Int) (p : Nat) (v1 : Int) (h : zH) : zx zblk xs 192 0 [some (.inr (.inr (some p))), some (.inl v1)] [] h = (zgr h (some p) 5 1 fun f1 => (zck h f1 3 (zci (zx zblk xs 172 0 [some (.inr (.inr f1)), some (.inl v1)] [] h) fun r3 h2 => some (some (.inl r3), h2)))) := (zx_unfold zblk xs 192 0 _ rfl _ _ _).trans rfl
/-- MindReaders$Signals.secondsOf(I)I -/
theorem e_193_0 (xs : List Int) (p : Nat) (v1 : Int) (h : zH) : zx zblk xs 193 0 [some (.inr (.inr (some p))), some (.inl v1)] [] h = (zgr h (some p) 5 2 fun f1 => (zck h f1 3 (zci (zx zblk xs 172 0 [some (.inr (.inr f1)), some (.inl v1)] [] h) fun r3 h2 => (if zw r3 ≠ zw (-1) then zx zblk xs 193 18 [none, none, some (.inl r3)] [] h2 else zx zblk xs 193 19 [] [.inl 1] h2)))) := (zx_unfold zblk xs 193 0 _ rfl _ _ _).trans rfl
theorem e_193_18 (xs : List Int) (v2 : Int) (h : zH) : zx zblk xs 193 18 [none, none, some (.inl v2)] [] h = zx zblk xs 193 19 [] [.inl v2] h := (zx_unfold zblk xs 193 18 _ rfl _ _ _).trans rfl
theorem e_193_19 (xs : List Int) (s0 : Int) (h : zH) : zx zblk xs 193 19 [] [.inl s0] h = some (some (.inl s0), h) := (zx_unfold zblk xs 193 19 _ rfl _ _ _).trans rfl
/-- MindReaders$Signals.oddOf(I)I -/
theorem e_194_0 (xs : List Int) (p : Nat) (v1 : Int) (h : zH) : zx zblk xs 194 0 [some (.inr (.inr (some p))), some (.inl v1)] [] h = (zgr h (some p) 5 3 fun f1 => (zck h f1 3 (zci (zx zblk xs 172 0 [some (.inr (.inr f1)), some (.inl v1)] [] h) fun r3 h2 => (if zw r3 ≠ zw (-1) then zx zblk xs 194 18 [none, none, some (.inl r3)] [] h2 else zx zblk xs 194 19 [] [.inl 0] h2)))) := (zx_unfold zblk xs 194 0 _ rfl _ _ _).trans rfl
theorem e_194_18 (xs : List Int) (v2 : Int) (h : zH) : zx zblk xs 194 18 [none, none, some (.inl v2)] [] h = zx zblk xs 194 19 [] [.inl v2] h := (zx_unfold zblk xs 194 18 _ rfl _ _ _).trans rfl
theorem e_194_19 (xs : List Int) (s0 : Int) (h : zH) : zx zblk xs 194 19 [] [.inl s0] h = some (some (.inl s0), h) := (zx_unfold zblk xs 194 19 _ rfl _ _ _).trans rfl
/-- MindReaders$Signals.isToneFor(II)Z -/
theorem e_195_0 (xs : List Int) (p : Nat) (v1 : Int) (v2 : Int) (h : zH) : zx zblk xs 195 0 [some (.inr (.inr (some p))), some (.inl v1), some (.inl v2)] [] h = (if zw v1 = zw 2 then zx zblk xs 195 16 [some (.inr (.inr (some p))), none, some (.inl v2)] [] h else (if zw v2 ≠ zw (-1) then zx zblk xs 195 14 [] [] h else zx zblk xs 195 15 [] [.inl 1] h)) := (zx_unfold zblk xs 195 0 _ rfl _ _ _).trans rfl
theorem e_195_14 (xs : List Int)  (h : zH) : zx zblk xs 195 14 [] [] h = zx zblk xs 195 15 [] [.inl 0] h := (zx_unfold zblk xs 195 14 _ rfl _ _ _).trans rfl
theorem e_195_15 (xs : List Int) (s0 : Int) (h : zH) : zx zblk xs 195 15 [] [.inl s0] h = (if s0 = 0 ∨ s0 = 1 then some (some (.inl s0), h) else none) := (zx_unfold zblk xs 195 15 _ rfl _ _ _).trans rfl
theorem e_195_16 (xs : List Int) (p : Nat) (v2 : Int) (h : zH) : zx zblk xs 195 16 [some (.inr (.inr (some p))), none, some (.inl v2)] [] h = (zck h (some p) 5 (zci (zx zblk xs 189 0 [some (.inr (.inr (some p))), some (.inl v2)] [] h) fun r2 h1 => (if zw r2 = 0 then zx zblk xs 195 45 [] [] h1 else (zck h1 (some p) 5 (zci (zx zblk xs 191 0 [some (.inr (.inr (some p))), some (.inl v2)] [] h1) fun r4 h3 => (if zw r4 = 0 then zx zblk xs 195 41 [] [] h3 else (zck h3 (some p) 5 (zci (zx zblk xs 191 0 [some (.inr (.inr (some p))), some (.inl v2)] [] h3) fun r6 h5 => (if zw r6 ≠ zw 1 then zx zblk xs 195 45 [] [] h5 else zx zblk xs 195 41 [] [] h5))))))))) := (zx_unfold zblk xs 195 16 _ rfl _ _ _).trans rfl
theorem e_195_41 (xs : List Int)  (h : zH) : zx zblk xs 195 41 [] [] h = zx zblk xs 195 46 [] [.inl 1] h := (zx_unfold zblk xs 195 41 _ rfl _ _ _).trans rfl
theorem e_195_45 (xs : List Int)  (h : zH) : zx zblk xs 195 45 [] [] h = zx zblk xs 195 46 [] [.inl 0] h := (zx_unfold zblk xs 195 45 _ rfl _ _ _).trans rfl
theorem e_195_46 (xs : List Int) (s0 : Int) (h : zH) : zx zblk xs 195 46 [] [.inl s0] h = (if s0 = 0 ∨ s0 = 1 then some (some (.inl s0), h) else none) := (zx_unfold zblk xs 195 46 _ rfl _ _ _).trans rfl
/-- MindReaders$Signals.secondsOfAll(LMindReaders$Row;)I -/
theorem e_196_0 (xs : List Int) (p : Nat) (v1 : Option Nat) (h : zH) : zx zblk xs 196 0 [some (.inr (.inr (some p))), some (.inr (.inr v1))] [] h = zx zblk xs 196 4 [some (.inr (.inr (some p))), some (.inr (.inr v1)), some (.inl 0), some (.inl 0)] [] h := (zx_unfold zblk xs 196 0 _ rfl _ _ _).trans rfl
theorem e_196_4 (xs : List Int) (p : Nat) (v1 : Option Nat) (v2 : Int) (v3 : Int) (h : zH) : zx zblk xs 196 4 [some (.inr (.inr (some p))), some (.inr (.inr v1)), some (.inl v2), some (.inl v3)] [] h = (zck h v1 3 (zci (zx zblk xs 171 0 [some (.inr (.inr v1))] [] h) fun r2 h1 => (if zw r2 ≤ zw v3 then zx zblk xs 196 30 [none, none, some (.inl v2)] [] h1 else (zck h1 v1 3 (zci (zx zblk xs 172 0 [some (.inr (.inr v1)), some (.inl v3)] [] h1) fun r4 h3 => (zck h3 (some p) 5 (zci (zx zblk xs 193 0 [some (.inr (.inr (some p))), some (.inl r4)] [] h3) fun r6 h5 => zx zblk xs 196 4 [some (.inr (.inr (some p))), some (.inr (.inr v1)), some (.inl (v2 + r6)), some (.inl (v3 + 1))] [] h5))))))) := (zx_unfold zblk xs 196 4 _ rfl _ _ _).trans rfl
theorem e_196_30 (xs : List Int) (v2 : Int) (h : zH) : zx zblk xs 196 30 [none, none, some (.inl v2)] [] h = some (some (.inl v2), h) := (zx_unfold zblk xs 196 30 _ rfl _ _ _).trans rfl
/-- MindReaders$Signals.oddOfAll(LMindReaders$Row;)I -/
theorem e_197_0 (xs : List Int) (p : Nat) (v1 : Option Nat) (h : zH) : zx zblk xs 197 0 [some (.inr (.inr (some p))), some (.inr (.inr v1))] [] h = zx zblk xs 197 4 [some (.inr (.inr (some p))), some (.inr (.inr v1)), some (.inl 0), some (.inl 0)] [] h := (zx_unfold zblk xs 197 0 _ rfl _ _ _).trans rfl
theorem e_197_4 (xs : List Int) (p : Nat) (v1 : Option Nat) (v2 : Int) (v3 : Int) (h : zH) : zx zblk xs 197 4 [some (.inr (.inr (some p))), some (.inr (.inr v1)), some (.inl v2), some (.inl v3)] [] h = (zck h v1 3 (zci (zx zblk xs 171 0 [some (.inr (.inr v1))] [] h) fun r2 h1 => (if zw r2 ≤ zw v3 then zx zblk xs 197 30 [none, none, some (.inl v2)] [] h1 else (zck h1 v1 3 (zci (zx zblk xs 172 0 [some (.inr (.inr v1)), some (.inl v3)] [] h1) fun r4 h3 => (zck h3 (some p) 5 (zci (zx zblk xs 194 0 [some (.inr (.inr (some p))), some (.inl r4)] [] h3) fun r6 h5 => zx zblk xs 197 4 [some (.inr (.inr (some p))), some (.inr (.inr v1)), some (.inl (v2 + r6)), some (.inl (v3 + 1))] [] h5))))))) := (zx_unfold zblk xs 197 4 _ rfl _ _ _).trans rfl
theorem e_197_30 (xs : List Int) (v2 : Int) (h : zH) : zx zblk xs 197 30 [none, none, some (.inl v2)] [] h = some (some (.inl v2), h) := (zx_unfold zblk xs 197 30 _ rfl _ _ _).trans rfl
/-- MindReaders$Signals.makePlain(LMindReaders$Row;ILMindReaders$Row;)V -/
theorem e_198_0 (xs : List Int) (p : Nat) (v1 : Option Nat) (v2 : Int) (v3 : Option Nat) (h : zH) : zx zblk xs 198 0 [some (.inr (.inr (some p))), some (.inr (.inr v1)), some (.inl v2), some (.inr (.inr v3))] [] h = (zck h v3 3 (zcv (zx zblk xs 176 0 [some (.inr (.inr v3))] [] h) fun h1 => zx zblk xs 198 7 [some (.inr (.inr (some p))), some (.inr (.inr v1)), some (.inl v2), some (.inr (.inr v3)), some (.inl 0)] [] h1)) := (zx_unfold zblk xs 198 0 _ rfl _ _ _).trans rfl
theorem e_198_7 (xs : List Int) (p : Nat) (v1 : Option Nat) (v2 : Int) (v3 : Option Nat) (v4 : Int) (h : zH) : zx zblk xs 198 7 [some (.inr (.inr (some p))), some (.inr (.inr v1)), some (.inl v2), some (.inr (.inr v3)), some (.inl v4)] [] h = (zck h v1 3 (zci (zx zblk xs 171 0 [some (.inr (.inr v1))] [] h) fun r2 h1 => (if zw r2 ≤ zw v4 then zx zblk xs 198 109 [] [] h1 else (zck h1 v1 3 (zci (zx zblk xs 172 0 [some (.inr (.inr v1)), some (.inl v4)] [] h1) fun r4 h3 => (if zw (zand (zshr v2 r4) 1) = 0 then zx zblk xs 198 36 [some (.inr (.inr (some p))), some (.inr (.inr v1)), some (.inl v2), some (.inr (.inr v3)), some (.inl v4), some (.inl r4)] [] h3 else zx zblk xs 198 103 [some (.inr (.inr (some p))), some (.inr (.inr v1)), some (.inl v2), some (.inr (.inr v3)), some (.inl v4)] [] h3)))))) := (zx_unfold zblk xs 198 7 _ rfl _ _ _).trans rfl
theorem e_198_36 (xs : List Int) (p : Nat) (v1 : Option Nat) (v2 : Int) (v3 : Option Nat) (v4 : Int) (v5 : Int) (h : zH) : zx zblk xs 198 36 [some (.inr (.inr (some p))), some (.inr (.inr v1)), some (.inl v2), some (.inr (.inr v3)), some (.inl v4), some (.inl v5)] [] h = (zck h (some p) 5 (zci (zx zblk xs 191 0 [some (.inr (.inr (some p))), some (.inl v5)] [] h) fun r2 h1 => (if zw r2 = 0 then zx zblk xs 198 55 [some (.inr (.inr (some p))), some (.inr (.inr v1)), some (.inl v2), some (.inr (.inr v3)), some (.inl v4), some (.inl v5)] [] h1 else (if zw r2 ≠ zw 1 then zx zblk xs 198 64 [some (.inr (.inr (some p))), some (.inr (.inr v1)), some (.inl v2), some (.inr (.inr v3)), some (.inl v4), some (.inl v5), some (.inl r2)] [] h1 else zx zblk xs 198 55 [some (.inr (.inr (some p))), some (.inr (.inr v1)), some (.inl v2), some (.inr (.inr v3)), some (.inl v4), some (.inl v5)] [] h1)))) := (zx_unfold zblk xs 198 36 _ rfl _ _ _).trans rfl
theorem e_198_55 (xs : List Int) (p : Nat) (v1 : Option Nat) (v2 : Int) (v3 : Option Nat) (v4 : Int) (v5 : Int) (h : zH) : zx zblk xs 198 55 [some (.inr (.inr (some p))), some (.inr (.inr v1)), some (.inl v2), some (.inr (.inr v3)), some (.inl v4), some (.inl v5)] [] h = (zck h v3 3 (zcv (zx zblk xs 174 0 [some (.inr (.inr v3)), some (.inl v5)] [] h) fun h1 => zx zblk xs 198 103 [some (.inr (.inr (some p))), some (.inr (.inr v1)), some (.inl v2), some (.inr (.inr v3)), some (.inl v4)] [] h1)) := (zx_unfold zblk xs 198 55 _ rfl _ _ _).trans rfl
theorem e_198_64 (xs : List Int) (p : Nat) (v1 : Option Nat) (v2 : Int) (v3 : Option Nat) (v4 : Int) (v5 : Int) (v6 : Int) (h : zH) : zx zblk xs 198 64 [some (.inr (.inr (some p))), some (.inr (.inr v1)), some (.inl v2), some (.inr (.inr v3)), some (.inl v4), some (.inl v5), some (.inl v6)] [] h = (if zw v6 ≠ zw 2 then zx zblk xs 198 93 [some (.inr (.inr (some p))), some (.inr (.inr v1)), some (.inl v2), some (.inr (.inr v3)), some (.inl v4), none, some (.inl v6)] [] h else (zck h (some p) 5 (zci (zx zblk xs 192 0 [some (.inr (.inr (some p))), some (.inl v5)] [] h) fun r2 h1 => (zck h1 v3 3 (zcv (zx zblk xs 174 0 [some (.inr (.inr v3)), some (.inl r2)] [] h1) fun h3 => (zck h3 (some p) 5 (zci (zx zblk xs 192 0 [some (.inr (.inr (some p))), some (.inl v5)] [] h3) fun r5 h4 => (zck h4 v3 3 (zcv (zx zblk xs 174 0 [some (.inr (.inr v3)), some (.inl r5)] [] h4) fun h6 => zx zblk xs 198 103 [some (.inr (.inr (some p))), some (.inr (.inr v1)), some (.inl v2), some (.inr (.inr v3)), some (.inl v4)] [] h6))))))))) := (zx_unfold zblk xs 198 64 _ rfl _ _ _).trans rfl
theorem e_198_93 (xs : List Int) (p : Nat) (v1 : Option Nat) (v2 : Int) (v3 : Option Nat) (v4 : Int) (v6 : Int) (h : zH) : zx zblk xs 198 93 [some (.inr (.inr (some p))), some (.inr (.inr v1)), some (.inl v2), some (.inr (.inr v3)), some (.inl v4), none, some (.inl v6)] [] h = (if zw v6 ≠ zw 4 then zx zblk xs 198 103 [some (.inr (.inr (some p))), some (.inr (.inr v1)), some (.inl v2), some (.inr (.inr v3)), some (.inl v4)] [] h else (zck h v3 3 (zcv (zx zblk xs 175 0 [some (.inr (.inr v3))] [] h) fun h1 => zx zblk xs 198 103 [some (.inr (.inr (some p))), some (.inr (.inr v1)), some (.inl v2), some (.inr (.inr v3)), some (.inl v4)] [] h1))) := (zx_unfold zblk xs 198 93 _ rfl _ _ _).trans rfl
theorem e_198_103 (xs : List Int) (p : Nat) (v1 : Option Nat) (v2 : Int) (v3 : Option Nat) (v4 : Int) (h : zH) : zx zblk xs 198 103 [some (.inr (.inr (some p))), some (.inr (.inr v1)), some (.inl v2), some (.inr (.inr v3)), some (.inl v4)] [] h = zx zblk xs 198 7 [some (.inr (.inr (some p))), some (.inr (.inr v1)), some (.inl v2), some (.inr (.inr v3)), some (.inl (v4 + 1))] [] h := (zx_unfold zblk xs 198 103 _ rfl _ _ _).trans rfl
theorem e_198_109 (xs : List Int)  (h : zH) : zx zblk xs 198 109 [] [] h = some (none, h) := (zx_unfold zblk xs 198 109 _ rfl _ _ _).trans rfl
/-- java/lang/Integer.bitCount(I)I -/
theorem e_199_0 (xs : List Int) (v0 : Int) (h : zH) : zx zblk xs 199 0 [some (.inl v0)] [] h = some (some (.inl (zand (((zand (((zand (v0 - (zand (zushr v0 1) 1431655765)) 858993459) + (zand (zushr (v0 - (zand (zushr v0 1) 1431655765)) 2) 858993459)) + (zushr ((zand (v0 - (zand (zushr v0 1) 1431655765)) 858993459) + (zand (zushr (v0 - (zand (zushr v0 1) 1431655765)) 2) 858993459)) 4)) 252645135) + (zushr (zand (((zand (v0 - (zand (zushr v0 1) 1431655765)) 858993459) + (zand (zushr (v0 - (zand (zushr v0 1) 1431655765)) 2) 858993459)) + (zushr ((zand (v0 - (zand (zushr v0 1) 1431655765)) 858993459) + (zand (zushr (v0 - (zand (zushr v0 1) 1431655765)) 2) 858993459)) 4)) 252645135) 8)) + (zushr ((zand (((zand (v0 - (zand (zushr v0 1) 1431655765)) 858993459) + (zand (zushr (v0 - (zand (zushr v0 1) 1431655765)) 2) 858993459)) + (zushr ((zand (v0 - (zand (zushr v0 1) 1431655765)) 858993459) + (zand (zushr (v0 - (zand (zushr v0 1) 1431655765)) 2) 858993459)) 4)) 252645135) + (zushr (zand (((zand (v0 - (zand (zushr v0 1) 1431655765)) 858993459) + (zand (zushr (v0 - (zand (zushr v0 1) 1431655765)) 2) 858993459)) + (zushr ((zand (v0 - (zand (zushr v0 1) 1431655765)) 858993459) + (zand (zushr (v0 - (zand (zushr v0 1) 1431655765)) 2) 858993459)) 4)) 252645135) 8)) 16)) 63)), h) := (zx_unfold zblk xs 199 0 _ rfl _ _ _).trans rfl
end
section
/-! ===== what each block of code does (printed by a program of mine; each by rfl) ===== -/
/-- MindReaders.letters(J)I -/
theorem e_2_0 (xs : List Int) (p : Nat) (v1 : Int) (h : zH) : zx zblk xs 2 0 [some (.inr (.inr (some p))), some (.inr (.inl v1))] [] h = (zci (zx zblk xs 41 0 [some (.inr (.inl v1)), none] [] h) fun r2 h1 => (if zw r2 ≠ zw (-1) then zx zblk xs 2 13 [some (.inr (.inr (some p))), some (.inr (.inl v1)), none, some (.inl r2)] [] h1 else some (some (.inl (-102)), h1))) := (zx_unfold zblk xs 2 0 _ rfl _ _ _).trans rfl
theorem e_2_13 (xs : List Int) (p : Nat) (v1 : Int) (v3 : Int) (h : zH) : zx zblk xs 2 13 [some (.inr (.inr (some p))), some (.inr (.inl v1)), none, some (.inl v3)] [] h = (zgr h (some p) 6 4 fun f1 => (zck h f1 3 (zci (zx zblk xs 171 0 [some (.inr (.inr f1))] [] h) fun r3 h2 => (if zw (r3 + v3) ≤ zw 48 then zx zblk xs 2 30 [some (.inr (.inr (some p))), some (.inr (.inl v1)), none, some (.inl v3)] [] h2 else some (some (.inl (-104)), h2))))) := (zx_unfold zblk xs 2 13 _ rfl _ _ _).trans rfl
theorem e_2_30 (xs : List Int) (p : Nat) (v1 : Int) (v3 : Int) (h : zH) : zx zblk xs 2 30 [some (.inr (.inr (some p))), some (.inr (.inl v1)), none, some (.inl v3)] [] h = zx zblk xs 2 33 [some (.inr (.inr (some p))), some (.inr (.inl v1)), none, some (.inl v3), some (.inl 0)] [] h := (zx_unfold zblk xs 2 30 _ rfl _ _ _).trans rfl
theorem e_2_33 (xs : List Int) (p : Nat) (v1 : Int) (v3 : Int) (v4 : Int) (h : zH) : zx zblk xs 2 33 [some (.inr (.inr (some p))), some (.inr (.inl v1)), none, some (.inl v3), some (.inl v4)] [] h = (if zw v3 ≤ zw v4 then zx zblk xs 2 58 [some (.inr (.inr (some p)))] [] h else (zgr h (some p) 6 4 fun f1 => (zci (zx zblk xs 40 0 [some (.inr (.inl v1)), none, some (.inl v4)] [] h) fun r3 h2 => (zck h2 f1 3 (zcv (zx zblk xs 174 0 [some (.inr (.inr f1)), some (.inl r3)] [] h2) fun h4 => zx zblk xs 2 33 [some (.inr (.inr (some p))), some (.inr (.inl v1)), none, some (.inl v3), some (.inl (v4 + 1))] [] h4))))) := (zx_unfold zblk xs 2 33 _ rfl _ _ _).trans rfl
theorem e_2_58 (xs : List Int) (p : Nat) (h : zH) : zx zblk xs 2 58 [some (.inr (.inr (some p)))] [] h = (zgr h (some p) 6 4 fun f1 => (zck h f1 3 (zci (zx zblk xs 171 0 [some (.inr (.inr f1))] [] h) fun r3 h2 => some (some (.inl r3), h2)))) := (zx_unfold zblk xs 2 58 _ rfl _ _ _).trans rfl
/-- MindReaders.blank()I -/
theorem e_3_0 (xs : List Int) (p : Nat) (h : zH) : zx zblk xs 3 0 [some (.inr (.inr (some p)))] [] h = (zgr h (some p) 6 4 fun f1 => (zck h f1 3 (zci (zx zblk xs 171 0 [some (.inr (.inr f1))] [] h) fun r3 h2 => (zgr h2 (some p) 6 4 fun f4 => (zck h2 f4 3 (zcv (zx zblk xs 176 0 [some (.inr (.inr f4))] [] h2) fun h5 => some (some (.inl r3), h5))))))) := (zx_unfold zblk xs 3 0 _ rfl _ _ _).trans rfl
/-- MindReaders.fault()I -/
theorem e_4_0 (xs : List Int) (p : Nat) (h : zH) : zx zblk xs 4 0 [some (.inr (.inr (some p)))] [] h = (zck h (some p) 6 (zci (zx zblk xs 43 0 [some (.inr (.inr (some p)))] [] h) fun r2 h1 => some (some (.inl r2), h1))) := (zx_unfold zblk xs 4 0 _ rfl _ _ _).trans rfl
/-- MindReaders.code()I -/
theorem e_5_0 (xs : List Int) (p : Nat) (h : zH) : zx zblk xs 5 0 [some (.inr (.inr (some p)))] [] h = (zgr h (some p) 6 4 fun f1 => (zgr h (some p) 6 4 fun f2 => (zck h f2 3 (zci (zx zblk xs 171 0 [some (.inr (.inr f2))] [] h) fun r4 h3 => (zck h3 f1 3 (zci (zx zblk xs 172 0 [some (.inr (.inr f1)), some (.inl (r4 - 1))] [] h3) fun r6 h5 => (zci (zx zblk xs 42 0 [some (.inl r6)] [] h5) fun r8 h7 => (if zw r8 = zw (-1) then zx zblk xs 5 27 [some (.inr (.inr (some p)))] [] h7 else zx zblk xs 5 28 [some (.inr (.inr (some p)))] [.inl 1] h7)))))))) := (zx_unfold zblk xs 5 0 _ rfl _ _ _).trans rfl
theorem e_5_27 (xs : List Int) (p : Nat) (h : zH) : zx zblk xs 5 27 [some (.inr (.inr (some p)))] [] h = zx zblk xs 5 28 [some (.inr (.inr (some p)))] [.inl 0] h := (zx_unfold zblk xs 5 27 _ rfl _ _ _).trans rfl
theorem e_5_28 (xs : List Int) (p : Nat) (s0 : Int) (h : zH) : zx zblk xs 5 28 [some (.inr (.inr (some p)))] [.inl s0] h = (if zw s0 = 0 then zx zblk xs 5 47 [] [] h else (zck h (some p) 6 (zci (zx zblk xs 43 0 [some (.inr (.inr (some p)))] [] h) fun r2 h1 => (zgr h1 (some p) 6 4 fun f3 => (zck h1 f3 3 (zci (zx zblk xs 171 0 [some (.inr (.inr f3))] [] h1) fun r5 h4 => (if zw r5 ≤ zw r2 then zx zblk xs 5 50 [some (.inr (.inr (some p)))] [] h4 else zx zblk xs 5 47 [] [] h4))))))) := (zx_unfold zblk xs 5 28 _ rfl _ _ _).trans rfl
theorem e_5_47 (xs : List Int)  (h : zH) : zx zblk xs 5 47 [] [] h = some (some (.inl (-103)), h) := (zx_unfold zblk xs 5 47 _ rfl _ _ _).trans rfl
theorem e_5_50 (xs : List Int) (p : Nat) (h : zH) : zx zblk xs 5 50 [some (.inr (.inr (some p)))] [] h = (zgi h (some p) 6 3 fun f1 => (if zw f1 < 0 then zx zblk xs 5 69 [] [] h else (zgi h (some p) 6 3 fun f2 => (zgr h (some p) 6 2 fun f3 => (zln xs h f3 fun n4 => (if zw f2 < zw n4 then zx zblk xs 5 72 [some (.inr (.inr (some p)))] [] h else zx zblk xs 5 69 [] [] h)))))) := (zx_unfold zblk xs 5 50 _ rfl _ _ _).trans rfl
theorem e_5_69 (xs : List Int)  (h : zH) : zx zblk xs 5 69 [] [] h = some (some (.inl (-104)), h) := (zx_unfold zblk xs 5 69 _ rfl _ _ _).trans rfl
theorem e_5_72 (xs : List Int) (p : Nat) (h : zH) : zx zblk xs 5 72 [some (.inr (.inr (some p)))] [] h = (zgr h (some p) 6 2 fun f1 => (zgi h (some p) 6 3 fun f2 => (zaa xs h f1 102 f2 fun a3 => (zif a3 (some (some (.inl (-104)), h)) (zx zblk xs 5 89 [some (.inr (.inr (some p))), none, some (.inr (.inr a3))] [] h))))) := (zx_unfold zblk xs 5 72 _ rfl _ _ _).trans rfl
theorem e_5_89 (xs : List Int) (p : Nat) (v2 : Option Nat) (h : zH) : zx zblk xs 5 89 [some (.inr (.inr (some p))), none, some (.inr (.inr v2))] [] h = (zgr h (some p) 6 4 fun f1 => (zck h v2 0 (zcv (zx zblk xs 151 0 [some (.inr (.inr v2)), some (.inr (.inr f1))] [] h) fun h2 => (zgr h2 (some p) 6 0 fun f3 => (zck h2 v2 0 (zcv (zx zblk xs 152 0 [some (.inr (.inr v2)), some (.inr (.inr f3))] [] h2) fun h4 => (zgr h4 (some p) 6 4 fun f5 => (zck h4 f5 3 (zcv (zx zblk xs 176 0 [some (.inr (.inr f5))] [] h4) fun h6 => (zgi h6 (some p) 6 3 fun f7 => (zpf h6 (some p) 6 3 (.inl (f7 + 1)) fun h8 => (zgi h8 (some p) 6 3 fun f9 => some (some (.inl (f9 - 1)), h8))))))))))))) := (zx_unfold zblk xs 5 89 _ rfl _ _ _).trans rfl
/-- MindReaders.signal(IIII)I -/
theorem e_6_0 (xs : List Int) (p : Nat) (v1 : Int) (v2 : Int) (v3 : Int) (v4 : Int) (h : zH) : zx zblk xs 6 0 [some (.inr (.inr (some p))), some (.inl v1), some (.inl v2), some (.inl v3), some (.inl v4)] [] h = (if zw v1 < 0 then zx zblk xs 6 9 [] [] h else (if zw v1 ≤ zw 4 then zx zblk xs 6 12 [some (.inr (.inr (some p))), some (.inl v1), some (.inl v2), some (.inl v3), some (.inl v4)] [] h else zx zblk xs 6 9 [] [] h)) := (zx_unfold zblk xs 6 0 _ rfl _ _ _).trans rfl
theorem e_6_9 (xs : List Int)  (h : zH) : zx zblk xs 6 9 [] [] h = some (some (.inl (-102)), h) := (zx_unfold zblk xs 6 9 _ rfl _ _ _).trans rfl
theorem e_6_12 (xs : List Int) (p : Nat) (v1 : Int) (v2 : Int) (v3 : Int) (v4 : Int) (h : zH) : zx zblk xs 6 12 [some (.inr (.inr (some p))), some (.inl v1), some (.inl v2), some (.inl v3), some (.inl v4)] [] h = (zgr h (some p) 6 0 fun f1 => (zck h f1 5 (zci (zx zblk xs 195 0 [some (.inr (.inr f1)), some (.inl v1), some (.inl v2)] [] h) fun r3 h2 => (if zw r3 ≠ 0 then zx zblk xs 6 27 [some (.inr (.inr (some p))), some (.inl v1), some (.inl v2), some (.inl v3), some (.inl v4)] [] h2 else some (some (.inl (-101)), h2))))) := (zx_unfold zblk xs 6 12 _ rfl _ _ _).trans rfl
theorem e_6_27 (xs : List Int) (p : Nat) (v1 : Int) (v2 : Int) (v3 : Int) (v4 : Int) (h : zH) : zx zblk xs 6 27 [some (.inr (.inr (some p))), some (.inl v1), some (.inl v2), some (.inl v3), some (.inl v4)] [] h = (if zw v3 < zw 1 then zx zblk xs 6 50 [] [] h else (if zw 9 < zw v3 then zx zblk xs 6 50 [] [] h else (if zw v4 < 0 then zx zblk xs 6 50 [] [] h else (if zw v4 ≤ zw 9 then zx zblk xs 6 53 [some (.inr (.inr (some p))), some (.inl v1), some (.inl v2), some (.inl v3), some (.inl v4)] [] h else zx zblk xs 6 50 [] [] h)))) := (zx_unfold zblk xs 6 27 _ rfl _ _ _).trans rfl
theorem e_6_50 (xs : List Int)  (h : zH) : zx zblk xs 6 50 [] [] h = some (some (.inl (-102)), h) := (zx_unfold zblk xs 6 50 _ rfl _ _ _).trans rfl
theorem e_6_53 (xs : List Int) (p : Nat) (v1 : Int) (v2 : Int) (v3 : Int) (v4 : Int) (h : zH) : zx zblk xs 6 53 [some (.inr (.inr (some p))), some (.inl v1), some (.inl v2), some (.inl v3), some (.inl v4)] [] h = (zgr h (some p) 6 0 fun f1 => (zck h f1 5 (zci (zx zblk xs 188 0 [some (.inr (.inr f1))] [] h) fun r3 h2 => (if zw r3 < zw 8 then zx zblk xs 6 68 [some (.inr (.inr (some p))), some (.inl v1), some (.inl v2), some (.inl v3), some (.inl v4)] [] h2 else some (some (.inl (-104)), h2))))) := (zx_unfold zblk xs 6 53 _ rfl _ _ _).trans rfl
theorem e_6_68 (xs : List Int) (p : Nat) (v1 : Int) (v2 : Int) (v3 : Int) (v4 : Int) (h : zH) : zx zblk xs 6 68 [some (.inr (.inr (some p))), some (.inl v1), some (.inl v2), some (.inl v3), some (.inl v4)] [] h = (zgr h (some p) 6 0 fun f1 => (zck h f1 5 (zcv (zx zblk xs 190 0 [some (.inr (.inr f1)), some (.inl v1), some (.inl v2), some (.inl v3), some (.inl v4)] [] h) fun h2 => zx zblk xs 6 83 [some (.inr (.inr (some p))), none, none, none, none, some (.inl 0)] [] h2))) := (zx_unfold zblk xs 6 68 _ rfl _ _ _).trans rfl
theorem e_6_83 (xs : List Int) (p : Nat) (v5 : Int) (h : zH) : zx zblk xs 6 83 [some (.inr (.inr (some p))), none, none, none, none, some (.inl v5)] [] h = (zgi h (some p) 6 3 fun f1 => (if zw f1 ≤ zw v5 then zx zblk xs 6 120 [some (.inr (.inr (some p)))] [] h else (zck h (some p) 6 (zcr (zx zblk xs 49 0 [some (.inr (.inr (some p))), some (.inl v5)] [] h) fun r3 h2 => (zif r3 (zx zblk xs 6 114 [some (.inr (.inr (some p))), none, none, none, none, some (.inl v5)] [] h2) ((zgr h2 (some p) 6 0 fun f4 => (zck h2 r3 0 (zcv (zx zblk xs 152 0 [some (.inr (.inr r3)), some (.inr (.inr f4))] [] h2) fun h5 => zx zblk xs 6 114 [some (.inr (.inr (some p))), none, none, none, none, some (.inl v5)] [] h5))))))))) := (zx_unfold zblk xs 6 83 _ rfl _ _ _).trans rfl
theorem e_6_114 (xs : List Int) (p : Nat) (v5 : Int) (h : zH) : zx zblk xs 6 114 [some (.inr (.inr (some p))), none, none, none, none, some (.inl v5)] [] h = zx zblk xs 6 83 [some (.inr (.inr (some p))), none, none, none, none, some (.inl (v5 + 1))] [] h := (zx_unfold zblk xs 6 114 _ rfl _ _ _).trans rfl
theorem e_6_120 (xs : List Int) (p : Nat) (h : zH) : zx zblk xs 6 120 [some (.inr (.inr (some p)))] [] h = (zgr h (some p) 6 0 fun f1 => (zck h f1 5 (zci (zx zblk xs 188 0 [some (.inr (.inr f1))] [] h) fun r3 h2 => some (some (.inl (r3 - 1)), h2)))) := (zx_unfold zblk xs 6 120 _ rfl _ _ _).trans rfl
/-- MindReaders.as(II)I -/
theorem e_7_0 (xs : List Int) (p : Nat) (v1 : Int) (v2 : Int) (h : zH) : zx zblk xs 7 0 [some (.inr (.inr (some p))), some (.inl v1), some (.inl v2)] [] h = (zgr h (some p) 6 0 fun f1 => (zck h f1 5 (zci (zx zblk xs 189 0 [some (.inr (.inr f1)), some (.inl v1)] [] h) fun r3 h2 => (if zw r3 ≠ 0 then zx zblk xs 7 14 [some (.inr (.inr (some p))), some (.inl v1), some (.inl v2)] [] h2 else some (some (.inl (-101)), h2))))) := (zx_unfold zblk xs 7 0 _ rfl _ _ _).trans rfl
theorem e_7_14 (xs : List Int) (p : Nat) (v1 : Int) (v2 : Int) (h : zH) : zx zblk xs 7 14 [some (.inr (.inr (some p))), some (.inl v1), some (.inl v2)] [] h = (if zw v2 < 0 then zx zblk xs 7 23 [] [] h else (if zw v2 ≤ zw 4 then zx zblk xs 7 26 [some (.inr (.inr (some p))), some (.inl v1), some (.inl v2)] [] h else zx zblk xs 7 23 [] [] h)) := (zx_unfold zblk xs 7 14 _ rfl _ _ _).trans rfl
theorem e_7_23 (xs : List Int)  (h : zH) : zx zblk xs 7 23 [] [] h = some (some (.inl (-102)), h) := (zx_unfold zblk xs 7 23 _ rfl _ _ _).trans rfl
theorem e_7_26 (xs : List Int) (p : Nat) (v1 : Int) (v2 : Int) (h : zH) : zx zblk xs 7 26 [some (.inr (.inr (some p))), some (.inl v1), some (.inl v2)] [] h = (zgr h (some p) 6 0 fun f1 => (zck h f1 5 (zci (zx zblk xs 191 0 [some (.inr (.inr f1)), some (.inl v1)] [] h) fun r3 h2 => (if zw v2 = zw r3 then zx zblk xs 7 54 [none, some (.inl v1)] [] h2 else (if zw v2 = 0 then zx zblk xs 7 54 [none, some (.inl v1)] [] h2 else (if zw v2 ≠ zw 1 then zx zblk xs 7 58 [none, some (.inl v1)] [] h2 else (if zw r3 ≠ zw 2 then zx zblk xs 7 58 [none, some (.inl v1)] [] h2 else zx zblk xs 7 54 [none, some (.inl v1)] [] h2))))))) := (zx_unfold zblk xs 7 26 _ rfl _ _ _).trans rfl
theorem e_7_54 (xs : List Int) (v1 : Int) (h : zH) : zx zblk xs 7 54 [none, some (.inl v1)] [] h = zx zblk xs 7 59 [none, some (.inl v1)] [.inl 1] h := (zx_unfold zblk xs 7 54 _ rfl _ _ _).trans rfl
theorem e_7_58 (xs : List Int) (v1 : Int) (h : zH) : zx zblk xs 7 58 [none, some (.inl v1)] [] h = zx zblk xs 7 59 [none, some (.inl v1)] [.inl 0] h := (zx_unfold zblk xs 7 58 _ rfl _ _ _).trans rfl
theorem e_7_59 (xs : List Int) (v1 : Int) (s0 : Int) (h : zH) : zx zblk xs 7 59 [none, some (.inl v1)] [.inl s0] h = (if zw s0 = 0 then zx zblk xs 7 70 [] [] h else zx zblk xs 7 71 [] [.inl v1] h) := (zx_unfold zblk xs 7 59 _ rfl _ _ _).trans rfl
theorem e_7_70 (xs : List Int)  (h : zH) : zx zblk xs 7 70 [] [] h = zx zblk xs 7 71 [] [.inl (-1)] h := (zx_unfold zblk xs 7 70 _ rfl _ _ _).trans rfl
theorem e_7_71 (xs : List Int) (s0 : Int) (h : zH) : zx zblk xs 7 71 [] [.inl s0] h = some (some (.inl s0), h) := (zx_unfold zblk xs 7 71 _ rfl _ _ _).trans rfl
/-- MindReaders.about(II)I -/
theorem e_8_0 (xs : List Int) (p : Nat) (v1 : Int) (v2 : Int) (h : zH) : zx zblk xs 8 0 [some (.inr (.inr (some p))), some (.inl v1), some (.inl v2)] [] h = (zgr h (some p) 6 0 fun f1 => (zck h f1 5 (zci (zx zblk xs 189 0 [some (.inr (.inr f1)), some (.inl v1)] [] h) fun r3 h2 => (if zw r3 ≠ 0 then zx zblk xs 8 14 [some (.inr (.inr (some p))), some (.inl v1), some (.inl v2)] [] h2 else some (some (.inl (-101)), h2))))) := (zx_unfold zblk xs 8 0 _ rfl _ _ _).trans rfl
theorem e_8_14 (xs : List Int) (p : Nat) (v1 : Int) (v2 : Int) (h : zH) : zx zblk xs 8 14 [some (.inr (.inr (some p))), some (.inl v1), some (.inl v2)] [] h = (if zw v2 < 0 ∨ 3 < zw v2 then zx zblk xs 8 80 [some (.inr (.inr (some p))), some (.inl v1)] [] h else zsel ([44, 53, 62, 71][(zw v2 - 0).toNat]?) fun t => zx zblk xs 8 t [some (.inr (.inr (some p))), some (.inl v1)] [] h) := (zx_unfold zblk xs 8 14 _ rfl _ _ _).trans rfl
theorem e_8_44 (xs : List Int) (p : Nat) (v1 : Int) (h : zH) : zx zblk xs 8 44 [some (.inr (.inr (some p))), some (.inl v1)] [] h = (zgr h (some p) 6 0 fun f1 => (zck h f1 5 (zci (zx zblk xs 191 0 [some (.inr (.inr f1)), some (.inl v1)] [] h) fun r3 h2 => some (some (.inl r3), h2)))) := (zx_unfold zblk xs 8 44 _ rfl _ _ _).trans rfl
theorem e_8_53 (xs : List Int) (p : Nat) (v1 : Int) (h : zH) : zx zblk xs 8 53 [some (.inr (.inr (some p))), some (.inl v1)] [] h = (zgr h (some p) 6 0 fun f1 => (zck h f1 5 (zci (zx zblk xs 192 0 [some (.inr (.inr f1)), some (.inl v1)] [] h) fun r3 h2 => some (some (.inl r3), h2)))) := (zx_unfold zblk xs 8 53 _ rfl _ _ _).trans rfl
theorem e_8_62 (xs : List Int) (p : Nat) (v1 : Int) (h : zH) : zx zblk xs 8 62 [some (.inr (.inr (some p))), some (.inl v1)] [] h = (zgr h (some p) 6 0 fun f1 => (zck h f1 5 (zci (zx zblk xs 193 0 [some (.inr (.inr f1)), some (.inl v1)] [] h) fun r3 h2 => some (some (.inl r3), h2)))) := (zx_unfold zblk xs 8 62 _ rfl _ _ _).trans rfl
theorem e_8_71 (xs : List Int) (p : Nat) (v1 : Int) (h : zH) : zx zblk xs 8 71 [some (.inr (.inr (some p))), some (.inl v1)] [] h = (zgr h (some p) 6 0 fun f1 => (zck h f1 5 (zci (zx zblk xs 194 0 [some (.inr (.inr f1)), some (.inl v1)] [] h) fun r3 h2 => some (some (.inl r3), h2)))) := (zx_unfold zblk xs 8 71 _ rfl _ _ _).trans rfl
theorem e_8_80 (xs : List Int) (p : Nat) (v1 : Int) (h : zH) : zx zblk xs 8 80 [some (.inr (.inr (some p))), some (.inl v1)] [] h = some (some (.inl (-102)), h) := (zx_unfold zblk xs 8 80 _ rfl _ _ _).trans rfl
/-- MindReaders.thing(I)I -/
theorem e_9_0 (xs : List Int) (p : Nat) (v1 : Int) (h : zH) : zx zblk xs 9 0 [some (.inr (.inr (some p))), some (.inl v1)] [] h = (zci (zx zblk xs 46 0 [some (.inl v1)] [] h) fun r2 h1 => (if zw r2 ≠ 0 then zx zblk xs 9 10 [some (.inr (.inr (some p))), some (.inl v1)] [] h1 else some (some (.inl (-102)), h1))) := (zx_unfold zblk xs 9 0 _ rfl _ _ _).trans rfl
theorem e_9_10 (xs : List Int) (p : Nat) (v1 : Int) (h : zH) : zx zblk xs 9 10 [some (.inr (.inr (some p))), some (.inl v1)] [] h = (zgr h (some p) 6 1 fun f1 => (zck h f1 3 (zci (zx zblk xs 171 0 [some (.inr (.inr f1))] [] h) fun r3 h2 => (if zw r3 < zw 8 then zx zblk xs 9 25 [some (.inr (.inr (some p))), some (.inl v1)] [] h2 else some (some (.inl (-104)), h2))))) := (zx_unfold zblk xs 9 10 _ rfl _ _ _).trans rfl
theorem e_9_25 (xs : List Int) (p : Nat) (v1 : Int) (h : zH) : zx zblk xs 9 25 [some (.inr (.inr (some p))), some (.inl v1)] [] h = (zgr h (some p) 6 1 fun f1 => (zck h f1 3 (zcv (zx zblk xs 174 0 [some (.inr (.inr f1)), some (.inl v1)] [] h) fun h2 => (zgr h2 (some p) 6 1 fun f3 => (zck h2 f3 3 (zci (zx zblk xs 171 0 [some (.inr (.inr f3))] [] h2) fun r5 h4 => some (some (.inl (r5 - 1)), h4))))))) := (zx_unfold zblk xs 9 25 _ rfl _ _ _).trans rfl
/-- MindReaders.weigh(II)I -/
theorem e_10_0 (xs : List Int) (p : Nat) (v1 : Int) (v2 : Int) (h : zH) : zx zblk xs 10 0 [some (.inr (.inr (some p))), some (.inl v1), some (.inl v2)] [] h = (zck h (some p) 6 (zci (zx zblk xs 48 0 [some (.inr (.inr (some p))), some (.inl v1)] [] h) fun r2 h1 => (if zw r2 ≠ 0 then zx zblk xs 10 11 [some (.inr (.inr (some p))), some (.inl v1), some (.inl v2)] [] h1 else some (some (.inl (-101)), h1)))) := (zx_unfold zblk xs 10 0 _ rfl _ _ _).trans rfl
theorem e_10_11 (xs : List Int) (p : Nat) (v1 : Int) (v2 : Int) (h : zH) : zx zblk xs 10 11 [some (.inr (.inr (some p))), some (.inl v1), some (.inl v2)] [] h = (zci (zx zblk xs 46 0 [some (.inl v2)] [] h) fun r2 h1 => (if zw r2 ≠ 0 then zx zblk xs 10 21 [some (.inr (.inr (some p))), some (.inl v1), some (.inl v2)] [] h1 else some (some (.inl (-102)), h1))) := (zx_unfold zblk xs 10 11 _ rfl _ _ _).trans rfl
theorem e_10_21 (xs : List Int) (p : Nat) (v1 : Int) (v2 : Int) (h : zH) : zx zblk xs 10 21 [some (.inr (.inr (some p))), some (.inl v1), some (.inl v2)] [] h = (zgr h (some p) 6 1 fun f1 => (zck h f1 3 (zci (zx zblk xs 172 0 [some (.inr (.inr f1)), some (.inl v1)] [] h) fun r3 h2 => (zgr h2 (some p) 6 1 fun f4 => (zck h2 f4 3 (zcv (zx zblk xs 173 0 [some (.inr (.inr f4)), some (.inl v1), some (.inl v2)] [] h2) fun h5 => some (some (.inl r3), h5))))))) := (zx_unfold zblk xs 10 21 _ rfl _ _ _).trans rfl
/-- MindReaders.speech(III)I -/
theorem e_11_0 (xs : List Int) (p : Nat) (v1 : Int) (v2 : Int) (v3 : Int) (h : zH) : zx zblk xs 11 0 [some (.inr (.inr (some p))), some (.inl v1), some (.inl v2), some (.inl v3)] [] h = (zck h (some p) 6 (zcr (zx zblk xs 49 0 [some (.inr (.inr (some p))), some (.inl v1)] [] h) fun r2 h1 => (zif r2 (zx zblk xs 11 25 [] [] h1) ((if zw v2 < 0 then zx zblk xs 11 25 [] [] h1 else (zck h1 r2 0 (zci (zx zblk xs 148 0 [some (.inr (.inr r2))] [] h1) fun r4 h3 => (if zw v2 < zw r4 then zx zblk xs 11 28 [some (.inr (.inr (some p))), none, some (.inl v2), some (.inl v3), some (.inr (.inr r2))] [] h3 else zx zblk xs 11 25 [] [] h3)))))))) := (zx_unfold zblk xs 11 0 _ rfl _ _ _).trans rfl
theorem e_11_25 (xs : List Int)  (h : zH) : zx zblk xs 11 25 [] [] h = some (some (.inl (-101)), h) := (zx_unfold zblk xs 11 25 _ rfl _ _ _).trans rfl
theorem e_11_28 (xs : List Int) (p : Nat) (v2 : Int) (v3 : Int) (v4 : Option Nat) (h : zH) : zx zblk xs 11 28 [some (.inr (.inr (some p))), none, some (.inl v2), some (.inl v3), some (.inr (.inr v4))] [] h = (if zw v3 ≠ 0 then zx zblk xs 11 42 [some (.inr (.inr (some p))), none, some (.inl v2), some (.inl v3), some (.inr (.inr v4))] [] h else (zck h v4 0 (zcr (zx zblk xs 149 0 [some (.inr (.inr v4)), some (.inl v2)] [] h) fun r2 h1 => (zck h1 r2 3 (zci (zx zblk xs 171 0 [some (.inr (.inr r2))] [] h1) fun r4 h3 => some (some (.inl r4), h3)))))) := (zx_unfold zblk xs 11 28 _ rfl _ _ _).trans rfl
theorem e_11_42 (xs : List Int) (p : Nat) (v2 : Int) (v3 : Int) (v4 : Option Nat) (h : zH) : zx zblk xs 11 42 [some (.inr (.inr (some p))), none, some (.inl v2), some (.inl v3), some (.inr (.inr v4))] [] h = (if zw v3 < zw 1 then zx zblk xs 11 65 [some (.inr (.inr (some p))), none, some (.inl v2), some (.inl v3), some (.inr (.inr v4))] [] h else (if zw 5 < zw v3 then zx zblk xs 11 65 [some (.inr (.inr (some p))), none, some (.inl v2), some (.inl v3), some (.inr (.inr v4))] [] h else (zck h v4 0 (zcr (zx zblk xs 149 0 [some (.inr (.inr v4)), some (.inl v2)] [] h) fun r2 h1 => (zck h1 r2 3 (zci (zx zblk xs 172 0 [some (.inr (.inr r2)), some (.inl (v3 - 1))] [] h1) fun r4 h3 => some (some (.inl r4), h3))))))) := (zx_unfold zblk xs 11 42 _ rfl _ _ _).trans rfl
theorem e_11_65 (xs : List Int) (p : Nat) (v2 : Int) (v3 : Int) (v4 : Option Nat) (h : zH) : zx zblk xs 11 65 [some (.inr (.inr (some p))), none, some (.inl v2), some (.inl v3), some (.inr (.inr v4))] [] h = (if zw v3 ≠ zw 10 then zx zblk xs 11 81 [some (.inr (.inr (some p))), none, some (.inl v2), some (.inl v3), some (.inr (.inr v4))] [] h else (zck h v4 0 (zcr (zx zblk xs 150 0 [some (.inr (.inr v4)), some (.inl v2)] [] h) fun r2 h1 => (zck h1 r2 3 (zci (zx zblk xs 171 0 [some (.inr (.inr r2))] [] h1) fun r4 h3 => some (some (.inl r4), h3)))))) := (zx_unfold zblk xs 11 65 _ rfl _ _ _).trans rfl
theorem e_11_81 (xs : List Int) (p : Nat) (v2 : Int) (v3 : Int) (v4 : Option Nat) (h : zH) : zx zblk xs 11 81 [some (.inr (.inr (some p))), none, some (.inl v2), some (.inl v3), some (.inr (.inr v4))] [] h = (if zw v3 ≤ zw 10 then zx zblk xs 11 107 [some (.inr (.inr (some p))), none, some (.inl v2), some (.inl v3), some (.inr (.inr v4))] [] h else (if zw 20 < zw v3 then zx zblk xs 11 107 [some (.inr (.inr (some p))), none, some (.inl v2), some (.inl v3), some (.inr (.inr v4))] [] h else (zck h v4 0 (zcr (zx zblk xs 150 0 [some (.inr (.inr v4)), some (.inl v2)] [] h) fun r2 h1 => (zck h1 r2 3 (zci (zx zblk xs 172 0 [some (.inr (.inr r2)), some (.inl (v3 - 11))] [] h1) fun r4 h3 => some (some (.inl r4), h3))))))) := (zx_unfold zblk xs 11 81 _ rfl _ _ _).trans rfl
theorem e_11_107 (xs : List Int) (p : Nat) (v2 : Int) (v3 : Int) (v4 : Option Nat) (h : zH) : zx zblk xs 11 107 [some (.inr (.inr (some p))), none, some (.inl v2), some (.inl v3), some (.inr (.inr v4))] [] h = (if zw v3 ≠ zw 30 then zx zblk xs 11 123 [] [] h else (zck h (some p) 6 (zci (zx zblk xs 51 0 [some (.inr (.inr (some p))), some (.inr (.inr v4)), some (.inl v2)] [] h) fun r2 h1 => zx zblk xs 11 125 [] [.inl r2] h1))) := (zx_unfold zblk xs 11 107 _ rfl _ _ _).trans rfl
theorem e_11_123 (xs : List Int)  (h : zH) : zx zblk xs 11 123 [] [] h = zx zblk xs 11 125 [] [.inl (-102)] h := (zx_unfold zblk xs 11 123 _ rfl _ _ _).trans rfl
theorem e_11_125 (xs : List Int) (s0 : Int) (h : zH) : zx zblk xs 11 125 [] [.inl s0] h = some (some (.inl s0), h) := (zx_unfold zblk xs 11 125 _ rfl _ _ _).trans rfl
/-- MindReaders.means(I)I -/
theorem e_12_0 (xs : List Int) (p : Nat) (v1 : Int) (h : zH) : zx zblk xs 12 0 [some (.inr (.inr (some p))), some (.inl v1)] [] h = (zck h (some p) 6 (zcr (zx zblk xs 49 0 [some (.inr (.inr (some p))), some (.inl v1)] [] h) fun r2 h1 => (zif r2 (some (some (.inl (-101)), h1)) (zx zblk xs 12 13 [some (.inr (.inr (some p))), none, some (.inr (.inr r2))] [] h1)))) := (zx_unfold zblk xs 12 0 _ rfl _ _ _).trans rfl
theorem e_12_13 (xs : List Int) (p : Nat) (v2 : Option Nat) (h : zH) : zx zblk xs 12 13 [some (.inr (.inr (some p))), none, some (.inr (.inr v2))] [] h = (zck h (some p) 6 (zci (zx zblk xs 45 0 [some (.inr (.inr (some p)))] [] h) fun r2 h1 => (if zw r2 = 0 then zx zblk xs 12 31 [] [] h1 else (zgr h1 (some p) 6 10 fun f3 => (zck h1 v2 0 (zci (zx zblk xs 153 0 [some (.inr (.inr v2)), some (.inr (.inr f3))] [] h1) fun r5 h4 => zx zblk xs 12 33 [] [.inl r5] h4)))))) := (zx_unfold zblk xs 12 13 _ rfl _ _ _).trans rfl
theorem e_12_31 (xs : List Int)  (h : zH) : zx zblk xs 12 31 [] [] h = zx zblk xs 12 33 [] [.inl (-103)] h := (zx_unfold zblk xs 12 31 _ rfl _ _ _).trans rfl
theorem e_12_33 (xs : List Int) (s0 : Int) (h : zH) : zx zblk xs 12 33 [] [.inl s0] h = some (some (.inl s0), h) := (zx_unfold zblk xs 12 33 _ rfl _ _ _).trans rfl
/-- MindReaders.clear(II)I -/
theorem e_13_0 (xs : List Int) (p : Nat) (v1 : Int) (v2 : Int) (h : zH) : zx zblk xs 13 0 [some (.inr (.inr (some p))), some (.inl v1), some (.inl v2)] [] h = (zck h (some p) 6 (zcr (zx zblk xs 49 0 [some (.inr (.inr (some p))), some (.inl v1)] [] h) fun r2 h1 => (zif r2 (some (some (.inl (-101)), h1)) (zx zblk xs 13 13 [none, none, some (.inl v2), some (.inr (.inr r2))] [] h1)))) := (zx_unfold zblk xs 13 0 _ rfl _ _ _).trans rfl
theorem e_13_13 (xs : List Int) (v2 : Int) (v3 : Option Nat) (h : zH) : zx zblk xs 13 13 [none, none, some (.inl v2), some (.inr (.inr v3))] [] h = (if zw v2 < 0 then zx zblk xs 13 22 [] [] h else (if zw v2 ≤ zw 2 then zx zblk xs 13 25 [none, none, some (.inl v2), some (.inr (.inr v3))] [] h else zx zblk xs 13 22 [] [] h)) := (zx_unfold zblk xs 13 13 _ rfl _ _ _).trans rfl
theorem e_13_22 (xs : List Int)  (h : zH) : zx zblk xs 13 22 [] [] h = some (some (.inl (-102)), h) := (zx_unfold zblk xs 13 22 _ rfl _ _ _).trans rfl
theorem e_13_25 (xs : List Int) (v2 : Int) (v3 : Option Nat) (h : zH) : zx zblk xs 13 25 [none, none, some (.inl v2), some (.inr (.inr v3))] [] h = (zck h v3 0 (zci (zx zblk xs 154 0 [some (.inr (.inr v3))] [] h) fun r2 h1 => (if zw v2 ≠ 0 then zx zblk xs 13 47 [none, none, some (.inl v2), none, some (.inl r2)] [] h1 else (if zw r2 ≠ zw (-1) then zx zblk xs 13 45 [] [] h1 else zx zblk xs 13 46 [] [.inl 1] h1)))) := (zx_unfold zblk xs 13 25 _ rfl _ _ _).trans rfl
theorem e_13_45 (xs : List Int)  (h : zH) : zx zblk xs 13 45 [] [] h = zx zblk xs 13 46 [] [.inl 0] h := (zx_unfold zblk xs 13 45 _ rfl _ _ _).trans rfl
theorem e_13_46 (xs : List Int) (s0 : Int) (h : zH) : zx zblk xs 13 46 [] [.inl s0] h = some (some (.inl s0), h) := (zx_unfold zblk xs 13 46 _ rfl _ _ _).trans rfl
theorem e_13_47 (xs : List Int) (v2 : Int) (v4 : Int) (h : zH) : zx zblk xs 13 47 [none, none, some (.inl v2), none, some (.inl v4)] [] h = (zci (zx zblk xs 52 0 [some (.inl v4), some (.inl (v2 - 1))] [] h) fun r2 h1 => some (some (.inl r2), h1)) := (zx_unfold zblk xs 13 47 _ rfl _ _ _).trans rfl
/-- MindReaders.starts(II)I -/
theorem e_14_0 (xs : List Int) (p : Nat) (v1 : Int) (v2 : Int) (h : zH) : zx zblk xs 14 0 [some (.inr (.inr (some p))), some (.inl v1), some (.inl v2)] [] h = (zck h (some p) 6 (zcr (zx zblk xs 49 0 [some (.inr (.inr (some p))), some (.inl v1)] [] h) fun r2 h1 => (zif r2 (some (some (.inl (-101)), h1)) (zx zblk xs 14 13 [none, none, some (.inl v2), some (.inr (.inr r2))] [] h1)))) := (zx_unfold zblk xs 14 0 _ rfl _ _ _).trans rfl
theorem e_14_13 (xs : List Int) (v2 : Int) (v3 : Option Nat) (h : zH) : zx zblk xs 14 13 [none, none, some (.inl v2), some (.inr (.inr v3))] [] h = (if zw v2 < 0 then zx zblk xs 14 22 [] [] h else (if zw v2 ≤ zw 1 then zx zblk xs 14 25 [none, none, some (.inl v2), some (.inr (.inr v3))] [] h else zx zblk xs 14 22 [] [] h)) := (zx_unfold zblk xs 14 13 _ rfl _ _ _).trans rfl
theorem e_14_22 (xs : List Int)  (h : zH) : zx zblk xs 14 22 [] [] h = some (some (.inl (-102)), h) := (zx_unfold zblk xs 14 22 _ rfl _ _ _).trans rfl
theorem e_14_25 (xs : List Int) (v2 : Int) (v3 : Option Nat) (h : zH) : zx zblk xs 14 25 [none, none, some (.inl v2), some (.inr (.inr v3))] [] h = (zck h v3 0 (zci (zx zblk xs 155 0 [some (.inr (.inr v3))] [] h) fun r2 h1 => (zci (zx zblk xs 52 0 [some (.inl r2), some (.inl v2)] [] h1) fun r4 h3 => some (some (.inl r4), h3)))) := (zx_unfold zblk xs 14 25 _ rfl _ _ _).trans rfl
/-- MindReaders.twice(I)I -/
theorem e_15_0 (xs : List Int) (p : Nat) (v1 : Int) (h : zH) : zx zblk xs 15 0 [some (.inr (.inr (some p))), some (.inl v1)] [] h = (zck h (some p) 6 (zcr (zx zblk xs 49 0 [some (.inr (.inr (some p))), some (.inl v1)] [] h) fun r2 h1 => (zif r2 (zx zblk xs 15 23 [] [.inl (-101)] h1) (zx zblk xs 15 15 [some (.inr (.inr (some p))), none, some (.inr (.inr r2))] [] h1)))) := (zx_unfold zblk xs 15 0 _ rfl _ _ _).trans rfl
theorem e_15_15 (xs : List Int) (p : Nat) (v2 : Option Nat) (h : zH) : zx zblk xs 15 15 [some (.inr (.inr (some p))), none, some (.inr (.inr v2))] [] h = (zgr h (some p) 6 13 fun f1 => (zck h f1 2 (zci (zx zblk xs 166 0 [some (.inr (.inr f1)), some (.inr (.inr v2))] [] h) fun r3 h2 => zx zblk xs 15 23 [] [.inl r3] h2))) := (zx_unfold zblk xs 15 15 _ rfl _ _ _).trans rfl
theorem e_15_23 (xs : List Int) (s0 : Int) (h : zH) : zx zblk xs 15 23 [] [.inl s0] h = some (some (.inl s0), h) := (zx_unfold zblk xs 15 23 _ rfl _ _ _).trans rfl
/-- MindReaders.mean(II)I -/
theorem e_16_0 (xs : List Int) (p : Nat) (v1 : Int) (v2 : Int) (h : zH) : zx zblk xs 16 0 [some (.inr (.inr (some p))), some (.inl v1), some (.inl v2)] [] h = (zck h (some p) 6 (zcr (zx zblk xs 49 0 [some (.inr (.inr (some p))), some (.inl v1)] [] h) fun r2 h1 => (zif r2 (some (some (.inl (-101)), h1)) (zx zblk xs 16 13 [some (.inr (.inr (some p))), none, some (.inl v2), some (.inr (.inr r2))] [] h1)))) := (zx_unfold zblk xs 16 0 _ rfl _ _ _).trans rfl
theorem e_16_13 (xs : List Int) (p : Nat) (v2 : Int) (v3 : Option Nat) (h : zH) : zx zblk xs 16 13 [some (.inr (.inr (some p))), none, some (.inl v2), some (.inr (.inr v3))] [] h = (zci (zx zblk xs 47 0 [some (.inl v2)] [] h) fun r2 h1 => (if zw r2 ≠ 0 then zx zblk xs 16 23 [some (.inr (.inr (some p))), none, some (.inl v2), some (.inr (.inr v3))] [] h1 else some (some (.inl (-102)), h1))) := (zx_unfold zblk xs 16 13 _ rfl _ _ _).trans rfl
theorem e_16_23 (xs : List Int) (p : Nat) (v2 : Int) (v3 : Option Nat) (h : zH) : zx zblk xs 16 23 [some (.inr (.inr (some p))), none, some (.inl v2), some (.inr (.inr v3))] [] h = (zck h (some p) 6 (zci (zx zblk xs 50 0 [some (.inr (.inr (some p))), some (.inr (.inr v3))] [] h) fun r2 h1 => (if zw r2 ≠ 0 then zx zblk xs 16 38 [some (.inr (.inr (some p))), none, some (.inl v2), some (.inr (.inr v3)), some (.inl r2)] [] h1 else some (some (.inl (-103)), h1)))) := (zx_unfold zblk xs 16 23 _ rfl _ _ _).trans rfl
theorem e_16_38 (xs : List Int) (p : Nat) (v2 : Int) (v3 : Option Nat) (v4 : Int) (h : zH) : zx zblk xs 16 38 [some (.inr (.inr (some p))), none, some (.inl v2), some (.inr (.inr v3)), some (.inl v4)] [] h = zx zblk xs 16 44 [some (.inr (.inr (some p))), none, some (.inl v2), some (.inr (.inr v3)), some (.inl v4), some (.inr (.inl 0)), none, some (.inl 0)] [] h := (zx_unfold zblk xs 16 38 _ rfl _ _ _).trans rfl
theorem e_16_44 (xs : List Int) (p : Nat) (v2 : Int) (v3 : Option Nat) (v4 : Int) (v5 : Int) (v7 : Int) (h : zH) : zx zblk xs 16 44 [some (.inr (.inr (some p))), none, some (.inl v2), some (.inr (.inr v3)), some (.inl v4), some (.inr (.inl v5)), none, some (.inl v7)] [] h = (if zw v4 ≤ zw v7 then zx zblk xs 16 80 [some (.inr (.inr (some p))), none, some (.inl v2), none, some (.inl v4), some (.inr (.inl v5))] [] h else (zgr h (some p) 6 1 fun f1 => (zck h f1 3 (zci (zx zblk xs 172 0 [some (.inr (.inr f1)), some (.inl v7)] [] h) fun r3 h2 => (zck h2 (some p) 6 (zci (zx zblk xs 51 0 [some (.inr (.inr (some p))), some (.inr (.inr v3)), some (.inl v7)] [] h2) fun r5 h4 => zx zblk xs 16 44 [some (.inr (.inr (some p))), none, some (.inl v2), some (.inr (.inr v3)), some (.inl v4), some (.inr (.inl (v5 + (zw (r3 * r5))))), none, some (.inl (v7 + 1))] [] h4)))))) := (zx_unfold zblk xs 16 44 _ rfl _ _ _).trans rfl
theorem e_16_80 (xs : List Int) (p : Nat) (v2 : Int) (v4 : Int) (v5 : Int) (h : zH) : zx zblk xs 16 80 [some (.inr (.inr (some p))), none, some (.inl v2), none, some (.inl v4), some (.inr (.inl v5))] [] h = (zgr h (some p) 6 1 fun f1 => (zck h f1 3 (zci (zx zblk xs 182 0 [some (.inr (.inr f1)), some (.inl v4)] [] h) fun r3 h2 => (zcl (zx zblk xs 64 0 [some (.inr (.inl v5)), none, some (.inr (.inl (zw r3))), none, some (.inl v2)] [] h2) fun r5 h4 => some (some (.inl r5), h4))))) := (zx_unfold zblk xs 16 80 _ rfl _ _ _).trans rfl
/-- MindReaders.oddness(I)I -/
theorem e_17_0 (xs : List Int) (p : Nat) (v1 : Int) (h : zH) : zx zblk xs 17 0 [some (.inr (.inr (some p))), some (.inl v1)] [] h = (zck h (some p) 6 (zcr (zx zblk xs 49 0 [some (.inr (.inr (some p))), some (.inl v1)] [] h) fun r2 h1 => (zif r2 (some (some (.inl (-101)), h1)) (zx zblk xs 17 13 [some (.inr (.inr (some p))), none, some (.inr (.inr r2))] [] h1)))) := (zx_unfold zblk xs 17 0 _ rfl _ _ _).trans rfl
theorem e_17_13 (xs : List Int) (p : Nat) (v2 : Option Nat) (h : zH) : zx zblk xs 17 13 [some (.inr (.inr (some p))), none, some (.inr (.inr v2))] [] h = (zck h (some p) 6 (zci (zx zblk xs 50 0 [some (.inr (.inr (some p))), some (.inr (.inr v2))] [] h) fun r2 h1 => zx zblk xs 17 25 [some (.inr (.inr (some p))), none, some (.inr (.inr v2)), some (.inl r2), some (.inl 0), some (.inl 0)] [] h1)) := (zx_unfold zblk xs 17 13 _ rfl _ _ _).trans rfl
theorem e_17_25 (xs : List Int) (p : Nat) (v2 : Option Nat) (v3 : Int) (v4 : Int) (v5 : Int) (h : zH) : zx zblk xs 17 25 [some (.inr (.inr (some p))), none, some (.inr (.inr v2)), some (.inl v3), some (.inl v4), some (.inl v5)] [] h = (if zw v3 ≤ zw v5 then zx zblk xs 17 65 [none, none, none, none, some (.inl v4)] [] h else (zgr h (some p) 6 1 fun f1 => (zck h f1 3 (zci (zx zblk xs 172 0 [some (.inr (.inr f1)), some (.inl v5)] [] h) fun r3 h2 => (zgr h2 (some p) 6 0 fun f4 => (zck h2 v2 0 (zcr (zx zblk xs 149 0 [some (.inr (.inr v2)), some (.inl v5)] [] h2) fun r6 h5 => (zck h5 f4 5 (zci (zx zblk xs 197 0 [some (.inr (.inr f4)), some (.inr (.inr r6))] [] h5) fun r8 h7 => zx zblk xs 17 25 [some (.inr (.inr (some p))), none, some (.inr (.inr v2)), some (.inl v3), some (.inl (v4 + (r3 * r8))), some (.inl (v5 + 1))] [] h7))))))))) := (zx_unfold zblk xs 17 25 _ rfl _ _ _).trans rfl
theorem e_17_65 (xs : List Int) (v4 : Int) (h : zH) : zx zblk xs 17 65 [none, none, none, none, some (.inl v4)] [] h = some (some (.inl v4), h) := (zx_unfold zblk xs 17 65 _ rfl _ _ _).trans rfl
/-- MindReaders.dealt(II)I -/
theorem e_18_0 (xs : List Int) (p : Nat) (v1 : Int) (v2 : Int) (h : zH) : zx zblk xs 18 0 [some (.inr (.inr (some p))), some (.inl v1), some (.inl v2)] [] h = (zck h (some p) 6 (zcr (zx zblk xs 49 0 [some (.inr (.inr (some p))), some (.inl v1)] [] h) fun r2 h1 => (zif r2 (some (some (.inl (-101)), h1)) (zx zblk xs 18 13 [some (.inr (.inr (some p))), none, some (.inl v2), some (.inr (.inr r2))] [] h1)))) := (zx_unfold zblk xs 18 0 _ rfl _ _ _).trans rfl
theorem e_18_13 (xs : List Int) (p : Nat) (v2 : Int) (v3 : Option Nat) (h : zH) : zx zblk xs 18 13 [some (.inr (.inr (some p))), none, some (.inl v2), some (.inr (.inr v3))] [] h = (zci (zx zblk xs 47 0 [some (.inl v2)] [] h) fun r2 h1 => (if zw r2 ≠ 0 then zx zblk xs 18 35 [some (.inr (.inr (some p))), none, some (.inl v2), some (.inr (.inr v3))] [] h1 else (if zw v2 < zw 10 then zx zblk xs 18 32 [] [] h1 else (if zw v2 < zw 18 then zx zblk xs 18 35 [some (.inr (.inr (some p))), none, some (.inl v2), some (.inr (.inr v3))] [] h1 else zx zblk xs 18 32 [] [] h1)))) := (zx_unfold zblk xs 18 13 _ rfl _ _ _).trans rfl
theorem e_18_32 (xs : List Int)  (h : zH) : zx zblk xs 18 32 [] [] h = some (some (.inl (-102)), h) := (zx_unfold zblk xs 18 32 _ rfl _ _ _).trans rfl
theorem e_18_35 (xs : List Int) (p : Nat) (v2 : Int) (v3 : Option Nat) (h : zH) : zx zblk xs 18 35 [some (.inr (.inr (some p))), none, some (.inl v2), some (.inr (.inr v3))] [] h = (zck h (some p) 6 (zci (zx zblk xs 50 0 [some (.inr (.inr (some p))), some (.inr (.inr v3))] [] h) fun r2 h1 => (if zw r2 ≠ 0 then zx zblk xs 18 50 [some (.inr (.inr (some p))), none, some (.inl v2), some (.inr (.inr v3)), some (.inl r2)] [] h1 else some (some (.inl (-103)), h1)))) := (zx_unfold zblk xs 18 35 _ rfl _ _ _).trans rfl
theorem e_18_50 (xs : List Int) (p : Nat) (v2 : Int) (v3 : Option Nat) (v4 : Int) (h : zH) : zx zblk xs 18 50 [some (.inr (.inr (some p))), none, some (.inl v2), some (.inr (.inr v3)), some (.inl v4)] [] h = (if zw v2 < zw 10 then zx zblk xs 18 66 [some (.inr (.inr (some p))), none, some (.inl v2), some (.inr (.inr v3)), some (.inl v4)] [] h else (zck h (some p) 6 (zci (zx zblk xs 53 0 [some (.inr (.inr (some p))), some (.inr (.inr v3)), some (.inl (v2 - 10))] [] h) fun r2 h1 => some (some (.inl r2), h1)))) := (zx_unfold zblk xs 18 50 _ rfl _ _ _).trans rfl
theorem e_18_66 (xs : List Int) (p : Nat) (v2 : Int) (v3 : Option Nat) (v4 : Int) (h : zH) : zx zblk xs 18 66 [some (.inr (.inr (some p))), none, some (.inl v2), some (.inr (.inr v3)), some (.inl v4)] [] h = zx zblk xs 18 72 [some (.inr (.inr (some p))), none, some (.inl v2), some (.inr (.inr v3)), some (.inl v4), some (.inr (.inl 0)), none, some (.inl 0)] [] h := (zx_unfold zblk xs 18 66 _ rfl _ _ _).trans rfl
theorem e_18_72 (xs : List Int) (p : Nat) (v2 : Int) (v3 : Option Nat) (v4 : Int) (v5 : Int) (v7 : Int) (h : zH) : zx zblk xs 18 72 [some (.inr (.inr (some p))), none, some (.inl v2), some (.inr (.inr v3)), some (.inl v4), some (.inr (.inl v5)), none, some (.inl v7)] [] h = (if zw v4 ≤ zw v7 then zx zblk xs 18 113 [some (.inr (.inr (some p))), none, some (.inl v2), none, some (.inl v4), some (.inr (.inl v5))] [] h else (zgr h (some p) 6 1 fun f1 => (zck h f1 3 (zci (zx zblk xs 172 0 [some (.inr (.inr f1)), some (.inl v7)] [] h) fun r3 h2 => (zck h2 (some p) 6 (zci (zx zblk xs 53 0 [some (.inr (.inr (some p))), some (.inr (.inr v3)), some (.inl v7)] [] h2) fun r5 h4 => (zck h4 (some p) 6 (zci (zx zblk xs 51 0 [some (.inr (.inr (some p))), some (.inr (.inr v3)), some (.inl r5)] [] h4) fun r7 h6 => zx zblk xs 18 72 [some (.inr (.inr (some p))), none, some (.inl v2), some (.inr (.inr v3)), some (.inl v4), some (.inr (.inl (v5 + (zw (r3 * r7))))), none, some (.inl (v7 + 1))] [] h6)))))))) := (zx_unfold zblk xs 18 72 _ rfl _ _ _).trans rfl
theorem e_18_113 (xs : List Int) (p : Nat) (v2 : Int) (v4 : Int) (v5 : Int) (h : zH) : zx zblk xs 18 113 [some (.inr (.inr (some p))), none, some (.inl v2), none, some (.inl v4), some (.inr (.inl v5))] [] h = (zgr h (some p) 6 1 fun f1 => (zck h f1 3 (zci (zx zblk xs 182 0 [some (.inr (.inr f1)), some (.inl v4)] [] h) fun r3 h2 => (zcl (zx zblk xs 64 0 [some (.inr (.inl v5)), none, some (.inr (.inl (zw r3))), none, some (.inl v2)] [] h2) fun r5 h4 => some (some (.inl r5), h4))))) := (zx_unfold zblk xs 18 113 _ rfl _ _ _).trans rfl
/-- MindReaders.shortest(II)I -/
theorem e_19_0 (xs : List Int) (p : Nat) (v1 : Int) (v2 : Int) (h : zH) : zx zblk xs 19 0 [some (.inr (.inr (some p))), some (.inl v1), some (.inl v2)] [] h = (if zw v1 < zw 2 then zx zblk xs 19 18 [] [] h else (if zw 8 < zw v1 then zx zblk xs 19 18 [] [] h else (zci (zx zblk xs 47 0 [some (.inl v2)] [] h) fun r2 h1 => (if zw r2 ≠ 0 then zx zblk xs 19 21 [some (.inr (.inr (some p))), some (.inl v1), some (.inl v2)] [] h1 else zx zblk xs 19 18 [] [] h1)))) := (zx_unfold zblk xs 19 0 _ rfl _ _ _).trans rfl
theorem e_19_18 (xs : List Int)  (h : zH) : zx zblk xs 19 18 [] [] h = some (some (.inl (-102)), h) := (zx_unfold zblk xs 19 18 _ rfl _ _ _).trans rfl
theorem e_19_21 (xs : List Int) (p : Nat) (v1 : Int) (v2 : Int) (h : zH) : zx zblk xs 19 21 [some (.inr (.inr (some p))), some (.inl v1), some (.inl v2)] [] h = (zgr h (some p) 6 1 fun f1 => (zck h f1 3 (zci (zx zblk xs 171 0 [some (.inr (.inr f1))] [] h) fun r3 h2 => (if zw r3 ≠ 0 then zx zblk xs 19 34 [some (.inr (.inr (some p))), some (.inl v1), some (.inl v2)] [] h2 else some (some (.inl (-103)), h2))))) := (zx_unfold zblk xs 19 21 _ rfl _ _ _).trans rfl
theorem e_19_34 (xs : List Int) (p : Nat) (v1 : Int) (v2 : Int) (h : zH) : zx zblk xs 19 34 [some (.inr (.inr (some p))), some (.inl v1), some (.inl v2)] [] h = (zck h (some p) 6 (zcl (zx zblk xs 58 0 [some (.inr (.inr (some p))), some (.inl v1)] [] h) fun r2 h1 => (zgr h1 (some p) 6 1 fun f3 => (zgr h1 (some p) 6 1 fun f4 => (zck h1 f4 3 (zci (zx zblk xs 171 0 [some (.inr (.inr f4))] [] h1) fun r6 h5 => (zck h5 f3 3 (zci (zx zblk xs 182 0 [some (.inr (.inr f3)), some (.inl r6)] [] h5) fun r8 h7 => (zcl (zx zblk xs 64 0 [some (.inr (.inl r2)), none, some (.inr (.inl (zw r8))), none, some (.inl v2)] [] h7) fun r10 h9 => some (some (.inl r10), h9)))))))))) := (zx_unfold zblk xs 19 34 _ rfl _ _ _).trans rfl
/-- MindReaders.apart(I)I -/
theorem e_20_0 (xs : List Int) (p : Nat) (v1 : Int) (h : zH) : zx zblk xs 20 0 [some (.inr (.inr (some p))), some (.inl v1)] [] h = (zck h (some p) 6 (zcr (zx zblk xs 49 0 [some (.inr (.inr (some p))), some (.inl v1)] [] h) fun r2 h1 => (zif r2 (zx zblk xs 20 19 [] [.inl (-101)] h1) (zx zblk xs 20 15 [none, none, some (.inr (.inr r2))] [] h1)))) := (zx_unfold zblk xs 20 0 _ rfl _ _ _).trans rfl
theorem e_20_15 (xs : List Int) (v2 : Option Nat) (h : zH) : zx zblk xs 20 15 [none, none, some (.inr (.inr v2))] [] h = (zck h v2 0 (zci (zx zblk xs 156 0 [some (.inr (.inr v2))] [] h) fun r2 h1 => zx zblk xs 20 19 [] [.inl r2] h1)) := (zx_unfold zblk xs 20 15 _ rfl _ _ _).trans rfl
theorem e_20_19 (xs : List Int) (s0 : Int) (h : zH) : zx zblk xs 20 19 [] [.inl s0] h = some (some (.inl s0), h) := (zx_unfold zblk xs 20 19 _ rfl _ _ _).trans rfl
/-- MindReaders.named(I)I -/
theorem e_21_0 (xs : List Int) (p : Nat) (v1 : Int) (h : zH) : zx zblk xs 21 0 [some (.inr (.inr (some p))), some (.inl v1)] [] h = (zck h (some p) 6 (zcr (zx zblk xs 49 0 [some (.inr (.inr (some p))), some (.inl v1)] [] h) fun r2 h1 => (zif r2 (some (some (.inl (-101)), h1)) (zx zblk xs 21 13 [some (.inr (.inr (some p))), none, some (.inr (.inr r2))] [] h1)))) := (zx_unfold zblk xs 21 0 _ rfl _ _ _).trans rfl
theorem e_21_13 (xs : List Int) (p : Nat) (v2 : Option Nat) (h : zH) : zx zblk xs 21 13 [some (.inr (.inr (some p))), none, some (.inr (.inr v2))] [] h = (zck h (some p) 6 (zci (zx zblk xs 45 0 [some (.inr (.inr (some p)))] [] h) fun r2 h1 => (if zw r2 = 0 then zx zblk xs 21 31 [] [] h1 else (zgr h1 (some p) 6 10 fun f3 => (zck h1 v2 0 (zci (zx zblk xs 157 0 [some (.inr (.inr v2)), some (.inr (.inr f3))] [] h1) fun r5 h4 => zx zblk xs 21 33 [] [.inl r5] h4)))))) := (zx_unfold zblk xs 21 13 _ rfl _ _ _).trans rfl
theorem e_21_31 (xs : List Int)  (h : zH) : zx zblk xs 21 31 [] [] h = zx zblk xs 21 33 [] [.inl (-103)] h := (zx_unfold zblk xs 21 31 _ rfl _ _ _).trans rfl
theorem e_21_33 (xs : List Int) (s0 : Int) (h : zH) : zx zblk xs 21 33 [] [.inl s0] h = some (some (.inl s0), h) := (zx_unfold zblk xs 21 33 _ rfl _ _ _).trans rfl
/-- MindReaders.right(IIIII)J -/
theorem e_22_0 (xs : List Int) (p : Nat) (v1 : Int) (v2 : Int) (v3 : Int) (v4 : Int) (v5 : Int) (h : zH) : zx zblk xs 22 0 [some (.inr (.inr (some p))), some (.inl v1), some (.inl v2), some (.inl v3), some (.inl v4), some (.inl v5)] [] h = (zck h (some p) 6 (zcr (zx zblk xs 49 0 [some (.inr (.inr (some p))), some (.inl v1)] [] h) fun r2 h1 => (zif r2 (zx zblk xs 22 26 [] [] h1) ((if zw v2 < 0 then zx zblk xs 22 26 [] [] h1 else (zck h1 (some p) 6 (zci (zx zblk xs 50 0 [some (.inr (.inr (some p))), some (.inr (.inr r2))] [] h1) fun r4 h3 => (if zw v2 < zw r4 then zx zblk xs 22 30 [some (.inr (.inr (some p))), none, some (.inl v2), some (.inl v3), some (.inl v4), some (.inl v5), some (.inr (.inr r2))] [] h3 else zx zblk xs 22 26 [] [] h3)))))))) := (zx_unfold zblk xs 22 0 _ rfl _ _ _).trans rfl
theorem e_22_26 (xs : List Int)  (h : zH) : zx zblk xs 22 26 [] [] h = some (some (.inr (.inl (-101))), h) := (zx_unfold zblk xs 22 26 _ rfl _ _ _).trans rfl
theorem e_22_30 (xs : List Int) (p : Nat) (v2 : Int) (v3 : Int) (v4 : Int) (v5 : Int) (v6 : Option Nat) (h : zH) : zx zblk xs 22 30 [some (.inr (.inr (some p))), none, some (.inl v2), some (.inl v3), some (.inl v4), some (.inl v5), some (.inr (.inr v6))] [] h = (if zw v3 < zw 2 then zx zblk xs 22 61 [] [] h else (if zw 8 < zw v3 then zx zblk xs 22 61 [] [] h else (if zw v4 < 0 then zx zblk xs 22 61 [] [] h else (if zw 10 < zw v4 then zx zblk xs 22 61 [] [] h else (zci (zx zblk xs 47 0 [some (.inl v5)] [] h) fun r2 h1 => (if zw r2 ≠ 0 then zx zblk xs 22 65 [some (.inr (.inr (some p))), none, some (.inl v2), some (.inl v3), some (.inl v4), some (.inl v5), some (.inr (.inr v6))] [] h1 else zx zblk xs 22 61 [] [] h1)))))) := (zx_unfold zblk xs 22 30 _ rfl _ _ _).trans rfl
theorem e_22_61 (xs : List Int)  (h : zH) : zx zblk xs 22 61 [] [] h = some (some (.inr (.inl (-102))), h) := (zx_unfold zblk xs 22 61 _ rfl _ _ _).trans rfl
theorem e_22_65 (xs : List Int) (p : Nat) (v2 : Int) (v3 : Int) (v4 : Int) (v5 : Int) (v6 : Option Nat) (h : zH) : zx zblk xs 22 65 [some (.inr (.inr (some p))), none, some (.inl v2), some (.inl v3), some (.inl v4), some (.inl v5), some (.inr (.inr v6))] [] h = (zck h v6 0 (zcr (zx zblk xs 150 0 [some (.inr (.inr v6)), some (.inl v2)] [] h) fun r2 h1 => (zck h1 r2 3 (zci (zx zblk xs 171 0 [some (.inr (.inr r2))] [] h1) fun r4 h3 => (if zw 4 < zw r4 then zx zblk xs 22 91 [] [] h3 else (zck h3 r2 3 (zci (zx zblk xs 181 0 [some (.inr (.inr r2)), some (.inl v3)] [] h3) fun r6 h5 => (if zw r6 ≠ 0 then zx zblk xs 22 95 [some (.inr (.inr (some p))), none, some (.inl v2), some (.inl v3), some (.inl v4), some (.inl v5), some (.inr (.inr v6)), some (.inr (.inr r2))] [] h5 else zx zblk xs 22 91 [] [] h5)))))))) := (zx_unfold zblk xs 22 65 _ rfl _ _ _).trans rfl
theorem e_22_91 (xs : List Int)  (h : zH) : zx zblk xs 22 91 [] [] h = some (some (.inr (.inl (-103))), h) := (zx_unfold zblk xs 22 91 _ rfl _ _ _).trans rfl
theorem e_22_95 (xs : List Int) (p : Nat) (v2 : Int) (v3 : Int) (v4 : Int) (v5 : Int) (v6 : Option Nat) (v7 : Option Nat) (h : zH) : zx zblk xs 22 95 [some (.inr (.inr (some p))), none, some (.inl v2), some (.inl v3), some (.inl v4), some (.inl v5), some (.inr (.inr v6)), some (.inr (.inr v7))] [] h = (zck h (some p) 6 (zcl (zx zblk xs 59 0 [some (.inr (.inr (some p))), some (.inr (.inr v6)), some (.inl v2), some (.inl v3), some (.inl v4)] [] h) fun r2 h1 => (zck h1 v7 3 (zci (zx zblk xs 171 0 [some (.inr (.inr v7))] [] h1) fun r4 h3 => (zcl (zx zblk xs 63 0 [some (.inr (.inl (zw (10 * (v3 - 1))))), none, some (.inl r4)] [] h3) fun r6 h5 => (zcl (zx zblk xs 64 0 [some (.inr (.inl r2)), none, some (.inr (.inl r6)), none, some (.inl v5)] [] h5) fun r8 h7 => some (some (.inr (.inl r8)), h7))))))) := (zx_unfold zblk xs 22 95 _ rfl _ _ _).trans rfl
/-- MindReaders.note(I)I -/
theorem e_23_0 (xs : List Int) (p : Nat) (v1 : Int) (h : zH) : zx zblk xs 23 0 [some (.inr (.inr (some p))), some (.inl v1)] [] h = (zck h (some p) 6 (zci (zx zblk xs 48 0 [some (.inr (.inr (some p))), some (.inl v1)] [] h) fun r2 h1 => (if zw r2 ≠ 0 then zx zblk xs 23 11 [some (.inr (.inr (some p))), some (.inl v1)] [] h1 else some (some (.inl (-101)), h1)))) := (zx_unfold zblk xs 23 0 _ rfl _ _ _).trans rfl
theorem e_23_11 (xs : List Int) (p : Nat) (v1 : Int) (h : zH) : zx zblk xs 23 11 [some (.inr (.inr (some p))), some (.inl v1)] [] h = (zck h (some p) 6 (zci (zx zblk xs 44 0 [some (.inr (.inr (some p)))] [] h) fun r2 h1 => (if zw r2 = 0 then zx zblk xs 23 30 [] [] h1 else (zgr h1 (some p) 6 9 fun f3 => (zck h1 f3 3 (zci (zx zblk xs 171 0 [some (.inr (.inr f3))] [] h1) fun r5 h4 => (if zw r5 ≤ zw 8 then zx zblk xs 23 33 [some (.inr (.inr (some p))), some (.inl v1)] [] h4 else zx zblk xs 23 30 [] [] h4))))))) := (zx_unfold zblk xs 23 11 _ rfl _ _ _).trans rfl
theorem e_23_30 (xs : List Int)  (h : zH) : zx zblk xs 23 30 [] [] h = some (some (.inl (-103)), h) := (zx_unfold zblk xs 23 30 _ rfl _ _ _).trans rfl
theorem e_23_33 (xs : List Int) (p : Nat) (v1 : Int) (h : zH) : zx zblk xs 23 33 [some (.inr (.inr (some p))), some (.inl v1)] [] h = (zgr h (some p) 6 5 fun f1 => (zck h f1 1 (zci (zx zblk xs 159 0 [some (.inr (.inr f1))] [] h) fun r3 h2 => (if zw r3 < zw 10 then zx zblk xs 23 48 [some (.inr (.inr (some p))), some (.inl v1)] [] h2 else some (some (.inl (-104)), h2))))) := (zx_unfold zblk xs 23 33 _ rfl _ _ _).trans rfl
theorem e_23_48 (xs : List Int) (p : Nat) (v1 : Int) (h : zH) : zx zblk xs 23 48 [some (.inr (.inr (some p))), some (.inl v1)] [] h = (zgr h (some p) 6 5 fun f1 => (zgr h (some p) 6 9 fun f2 => (zck h f1 1 (zcv (zx zblk xs 162 0 [some (.inr (.inr f1)), some (.inl v1), some (.inr (.inr f2))] [] h) fun h3 => (zgr h3 (some p) 6 4 fun f4 => (zck h3 f4 3 (zcv (zx zblk xs 176 0 [some (.inr (.inr f4))] [] h3) fun h5 => (zgr h5 (some p) 6 5 fun f6 => (zck h5 f6 1 (zci (zx zblk xs 159 0 [some (.inr (.inr f6))] [] h5) fun r8 h7 => some (some (.inl r8), h7))))))))))) := (zx_unfold zblk xs 23 48 _ rfl _ _ _).trans rfl
/-- MindReaders.forget()I -/
theorem e_24_0 (xs : List Int) (p : Nat) (h : zH) : zx zblk xs 24 0 [some (.inr (.inr (some p)))] [] h = (zgr h (some p) 6 5 fun f1 => (zck h f1 1 (zci (zx zblk xs 159 0 [some (.inr (.inr f1))] [] h) fun r3 h2 => (zgr h2 (some p) 6 5 fun f4 => (zck h2 f4 1 (zcv (zx zblk xs 163 0 [some (.inr (.inr f4))] [] h2) fun h5 => some (some (.inl r3), h5))))))) := (zx_unfold zblk xs 24 0 _ rfl _ _ _).trans rfl
/-- MindReaders.which()I -/
theorem e_25_0 (xs : List Int) (p : Nat) (h : zH) : zx zblk xs 25 0 [some (.inr (.inr (some p)))] [] h = zx zblk xs 25 4 [some (.inr (.inr (some p))), some (.inl 0), some (.inl 0)] [] h := (zx_unfold zblk xs 25 0 _ rfl _ _ _).trans rfl
theorem e_25_4 (xs : List Int) (p : Nat) (v1 : Int) (v2 : Int) (h : zH) : zx zblk xs 25 4 [some (.inr (.inr (some p))), some (.inl v1), some (.inl v2)] [] h = (zgi h (some p) 6 3 fun f1 => (if zw f1 ≤ zw v2 then zx zblk xs 25 47 [none, some (.inl v1)] [] h else (zck h (some p) 6 (zcr (zx zblk xs 49 0 [some (.inr (.inr (some p))), some (.inl v2)] [] h) fun r3 h2 => (zif r3 (zx zblk xs 25 41 [some (.inr (.inr (some p))), some (.inl v1), some (.inl v2)] [] h2) ((zck h2 r3 0 (zci (zx zblk xs 148 0 [some (.inr (.inr r3))] [] h2) fun r5 h4 => (zck h4 (some p) 6 (zci (zx zblk xs 57 0 [some (.inr (.inr (some p))), some (.inr (.inr r3)), some (.inl r5), some (.inl 0)] [] h4) fun r7 h6 => (if zw r7 = 0 then zx zblk xs 25 41 [some (.inr (.inr (some p))), some (.inl v1), some (.inl v2)] [] h6 else zx zblk xs 25 41 [some (.inr (.inr (some p))), some (.inl (zor v1 (zshl 1 v2))), some (.inl v2)] [] h6))))))))))) := (zx_unfold zblk xs 25 4 _ rfl _ _ _).trans rfl
theorem e_25_41 (xs : List Int) (p : Nat) (v1 : Int) (v2 : Int) (h : zH) : zx zblk xs 25 41 [some (.inr (.inr (some p))), some (.inl v1), some (.inl v2)] [] h = zx zblk xs 25 4 [some (.inr (.inr (some p))), some (.inl v1), some (.inl (v2 + 1))] [] h := (zx_unfold zblk xs 25 41 _ rfl _ _ _).trans rfl
theorem e_25_47 (xs : List Int) (v1 : Int) (h : zH) : zx zblk xs 25 47 [none, some (.inl v1)] [] h = some (some (.inl v1), h) := (zx_unfold zblk xs 25 47 _ rfl _ _ _).trans rfl
/-- MindReaders.step(II)I -/
theorem e_26_0 (xs : List Int) (p : Nat) (v1 : Int) (v2 : Int) (h : zH) : zx zblk xs 26 0 [some (.inr (.inr (some p))), some (.inl v1), some (.inl v2)] [] h = (zck h (some p) 6 (zcr (zx zblk xs 49 0 [some (.inr (.inr (some p))), some (.inl v1)] [] h) fun r2 h1 => (zif r2 (some (some (.inl (-101)), h1)) (zx zblk xs 26 13 [some (.inr (.inr (some p))), none, some (.inl v2), some (.inr (.inr r2))] [] h1)))) := (zx_unfold zblk xs 26 0 _ rfl _ _ _).trans rfl
theorem e_26_13 (xs : List Int) (p : Nat) (v2 : Int) (v3 : Option Nat) (h : zH) : zx zblk xs 26 13 [some (.inr (.inr (some p))), none, some (.inl v2), some (.inr (.inr v3))] [] h = (if zw v2 < 0 then zx zblk xs 26 23 [] [] h else (if zw v2 ≤ zw 99 then zx zblk xs 26 26 [some (.inr (.inr (some p))), none, some (.inl v2), some (.inr (.inr v3))] [] h else zx zblk xs 26 23 [] [] h)) := (zx_unfold zblk xs 26 13 _ rfl _ _ _).trans rfl
theorem e_26_23 (xs : List Int)  (h : zH) : zx zblk xs 26 23 [] [] h = some (some (.inl (-102)), h) := (zx_unfold zblk xs 26 23 _ rfl _ _ _).trans rfl
theorem e_26_26 (xs : List Int) (p : Nat) (v2 : Int) (v3 : Option Nat) (h : zH) : zx zblk xs 26 26 [some (.inr (.inr (some p))), none, some (.inl v2), some (.inr (.inr v3))] [] h = (zck h (some p) 6 (zci (zx zblk xs 50 0 [some (.inr (.inr (some p))), some (.inr (.inr v3))] [] h) fun r2 h1 => (if zw r2 ≠ 0 then zx zblk xs 26 41 [some (.inr (.inr (some p))), none, some (.inl v2), some (.inr (.inr v3)), some (.inl r2)] [] h1 else some (some (.inl (-103)), h1)))) := (zx_unfold zblk xs 26 26 _ rfl _ _ _).trans rfl
theorem e_26_41 (xs : List Int) (p : Nat) (v2 : Int) (v3 : Option Nat) (v4 : Int) (h : zH) : zx zblk xs 26 41 [some (.inr (.inr (some p))), none, some (.inl v2), some (.inr (.inr v3)), some (.inl v4)] [] h = zx zblk xs 26 44 [some (.inr (.inr (some p))), none, some (.inl v2), some (.inr (.inr v3)), some (.inl v4), some (.inl 0)] [] h := (zx_unfold zblk xs 26 41 _ rfl _ _ _).trans rfl
theorem e_26_44 (xs : List Int) (p : Nat) (v2 : Int) (v3 : Option Nat) (v4 : Int) (v5 : Int) (h : zH) : zx zblk xs 26 44 [some (.inr (.inr (some p))), none, some (.inl v2), some (.inr (.inr v3)), some (.inl v4), some (.inl v5)] [] h = (if zw 7 < zw v5 then zx zblk xs 26 74 [] [] h else (zck h (some p) 6 (zci (zx zblk xs 57 0 [some (.inr (.inr (some p))), some (.inr (.inr v3)), some (.inl v4), some (.inl (v5 * v2))] [] h) fun r2 h1 => (if zw r2 = 0 then zx zblk xs 26 68 [some (.inr (.inr (some p))), none, some (.inl v2), some (.inr (.inr v3)), some (.inl v4), some (.inl v5)] [] h1 else some (some (.inl v5), h1))))) := (zx_unfold zblk xs 26 44 _ rfl _ _ _).trans rfl
theorem e_26_68 (xs : List Int) (p : Nat) (v2 : Int) (v3 : Option Nat) (v4 : Int) (v5 : Int) (h : zH) : zx zblk xs 26 68 [some (.inr (.inr (some p))), none, some (.inl v2), some (.inr (.inr v3)), some (.inl v4), some (.inl v5)] [] h = zx zblk xs 26 44 [some (.inr (.inr (some p))), none, some (.inl v2), some (.inr (.inr v3)), some (.inl v4), some (.inl (v5 + 1))] [] h := (zx_unfold zblk xs 26 68 _ rfl _ _ _).trans rfl
theorem e_26_74 (xs : List Int)  (h : zH) : zx zblk xs 26 74 [] [] h = some (some (.inl (-1)), h) := (zx_unfold zblk xs 26 74 _ rfl _ _ _).trans rfl
/-- MindReaders.seen(II)J -/
theorem e_27_0 (xs : List Int) (p : Nat) (v1 : Int) (v2 : Int) (h : zH) : zx zblk xs 27 0 [some (.inr (.inr (some p))), some (.inl v1), some (.inl v2)] [] h = (if zw v1 < zw 1 then zx zblk xs 27 18 [] [] h else (if zw 6 < zw v1 then zx zblk xs 27 18 [] [] h else (zci (zx zblk xs 47 0 [some (.inl v2)] [] h) fun r2 h1 => (if zw r2 ≠ 0 then zx zblk xs 27 22 [some (.inr (.inr (some p))), some (.inl v1), some (.inl v2)] [] h1 else zx zblk xs 27 18 [] [] h1)))) := (zx_unfold zblk xs 27 0 _ rfl _ _ _).trans rfl
theorem e_27_18 (xs : List Int)  (h : zH) : zx zblk xs 27 18 [] [] h = some (some (.inr (.inl (-102))), h) := (zx_unfold zblk xs 27 18 _ rfl _ _ _).trans rfl
theorem e_27_22 (xs : List Int) (p : Nat) (v1 : Int) (v2 : Int) (h : zH) : zx zblk xs 27 22 [some (.inr (.inr (some p))), some (.inl v1), some (.inl v2)] [] h = (zgr h (some p) 6 1 fun f1 => (zck h f1 3 (zci (zx zblk xs 171 0 [some (.inr (.inr f1))] [] h) fun r3 h2 => (if zw r3 ≠ 0 then zx zblk xs 27 36 [some (.inr (.inr (some p))), some (.inl v1), some (.inl v2)] [] h2 else some (some (.inr (.inl (-103))), h2))))) := (zx_unfold zblk xs 27 22 _ rfl _ _ _).trans rfl
theorem e_27_36 (xs : List Int) (p : Nat) (v1 : Int) (v2 : Int) (h : zH) : zx zblk xs 27 36 [some (.inr (.inr (some p))), some (.inl v1), some (.inl v2)] [] h = (zck h (some p) 6 (zcl (zx zblk xs 61 0 [some (.inr (.inr (some p))), some (.inl v1)] [] h) fun r2 h1 => (zgr h1 (some p) 6 1 fun f3 => (zgr h1 (some p) 6 1 fun f4 => (zck h1 f4 3 (zci (zx zblk xs 171 0 [some (.inr (.inr f4))] [] h1) fun r6 h5 => (zck h5 f3 3 (zci (zx zblk xs 182 0 [some (.inr (.inr f3)), some (.inl r6)] [] h5) fun r8 h7 => (zcl (zx zblk xs 63 0 [some (.inr (.inl (zw r8))), none, some (.inl v1)] [] h7) fun r10 h9 => (zcl (zx zblk xs 64 0 [some (.inr (.inl r2)), none, some (.inr (.inl r10)), none, some (.inl v2)] [] h9) fun r12 h11 => some (some (.inr (.inl r12)), h11))))))))))) := (zx_unfold zblk xs 27 36 _ rfl _ _ _).trans rfl
/-- MindReaders.change(II)I -/
theorem e_28_0 (xs : List Int) (p : Nat) (v1 : Int) (v2 : Int) (h : zH) : zx zblk xs 28 0 [some (.inr (.inr (some p))), some (.inl v1), some (.inl v2)] [] h = (zck h (some p) 6 (zcr (zx zblk xs 49 0 [some (.inr (.inr (some p))), some (.inl v1)] [] h) fun r2 h1 => (zck h1 (some p) 6 (zcr (zx zblk xs 49 0 [some (.inr (.inr (some p))), some (.inl v2)] [] h1) fun r4 h3 => (zif r2 (zx zblk xs 28 22 [] [] h3) ((zif r4 (zx zblk xs 28 22 [] [] h3) (zx zblk xs 28 25 [some (.inr (.inr (some p))), none, none, some (.inr (.inr r2)), some (.inr (.inr r4))] [] h3)))))))) := (zx_unfold zblk xs 28 0 _ rfl _ _ _).trans rfl
theorem e_28_22 (xs : List Int)  (h : zH) : zx zblk xs 28 22 [] [] h = some (some (.inl (-101)), h) := (zx_unfold zblk xs 28 22 _ rfl _ _ _).trans rfl
theorem e_28_25 (xs : List Int) (p : Nat) (v3 : Option Nat) (v4 : Option Nat) (h : zH) : zx zblk xs 28 25 [some (.inr (.inr (some p))), none, none, some (.inr (.inr v3)), some (.inr (.inr v4))] [] h = (zck h (some p) 6 (zci (zx zblk xs 56 0 [some (.inr (.inr (some p))), some (.inr (.inr v3)), some (.inr (.inr v4))] [] h) fun r2 h1 => some (some (.inl r2), h1))) := (zx_unfold zblk xs 28 25 _ rfl _ _ _).trans rfl
/-- MindReaders.cheapest(I)I -/
theorem e_29_0 (xs : List Int) (p : Nat) (v1 : Int) (h : zH) : zx zblk xs 29 0 [some (.inr (.inr (some p))), some (.inl v1)] [] h = (zck h (some p) 6 (zcr (zx zblk xs 49 0 [some (.inr (.inr (some p))), some (.inl v1)] [] h) fun r2 h1 => (zif r2 (some (some (.inl (-101)), h1)) (zx zblk xs 29 13 [some (.inr (.inr (some p))), some (.inl v1), some (.inr (.inr r2))] [] h1)))) := (zx_unfold zblk xs 29 0 _ rfl _ _ _).trans rfl
theorem e_29_13 (xs : List Int) (p : Nat) (v1 : Int) (v2 : Option Nat) (h : zH) : zx zblk xs 29 13 [some (.inr (.inr (some p))), some (.inl v1), some (.inr (.inr v2))] [] h = zx zblk xs 29 21 [some (.inr (.inr (some p))), some (.inl v1), some (.inr (.inr v2)), some (.inl (-1)), some (.inl 0), some (.inl 0)] [] h := (zx_unfold zblk xs 29 13 _ rfl _ _ _).trans rfl
theorem e_29_21 (xs : List Int) (p : Nat) (v1 : Int) (v2 : Option Nat) (v3 : Int) (v4 : Int) (v5 : Int) (h : zH) : zx zblk xs 29 21 [some (.inr (.inr (some p))), some (.inl v1), some (.inr (.inr v2)), some (.inl v3), some (.inl v4), some (.inl v5)] [] h = (zgi h (some p) 6 3 fun f1 => (if zw f1 ≤ zw v5 then zx zblk xs 29 86 [none, none, none, some (.inl v3)] [] h else (zck h (some p) 6 (zcr (zx zblk xs 49 0 [some (.inr (.inr (some p))), some (.inl v5)] [] h) fun r3 h2 => (zif r3 (zx zblk xs 29 80 [some (.inr (.inr (some p))), some (.inl v1), some (.inr (.inr v2)), some (.inl v3), some (.inl v4), some (.inl v5)] [] h2) ((if zw v5 ≠ zw v1 then zx zblk xs 29 52 [some (.inr (.inr (some p))), some (.inl v1), some (.inr (.inr v2)), some (.inl v3), some (.inl v4), some (.inl v5), some (.inr (.inr r3))] [] h2 else zx zblk xs 29 80 [some (.inr (.inr (some p))), some (.inl v1), some (.inr (.inr v2)), some (.inl v3), some (.inl v4), some (.inl v5)] [] h2))))))) := (zx_unfold zblk xs 29 21 _ rfl _ _ _).trans rfl
theorem e_29_52 (xs : List Int) (p : Nat) (v1 : Int) (v2 : Option Nat) (v3 : Int) (v4 : Int) (v5 : Int) (v6 : Option Nat) (h : zH) : zx zblk xs 29 52 [some (.inr (.inr (some p))), some (.inl v1), some (.inr (.inr v2)), some (.inl v3), some (.inl v4), some (.inl v5), some (.inr (.inr v6))] [] h = (zck h (some p) 6 (zci (zx zblk xs 56 0 [some (.inr (.inr (some p))), some (.inr (.inr v2)), some (.inr (.inr v6))] [] h) fun r2 h1 => (if zw v3 = zw (-1) then zx zblk xs 29 73 [some (.inr (.inr (some p))), some (.inl v1), some (.inr (.inr v2)), none, none, some (.inl v5), none, some (.inl r2)] [] h1 else (if zw v4 ≤ zw r2 then zx zblk xs 29 80 [some (.inr (.inr (some p))), some (.inl v1), some (.inr (.inr v2)), some (.inl v3), some (.inl v4), some (.inl v5)] [] h1 else zx zblk xs 29 73 [some (.inr (.inr (some p))), some (.inl v1), some (.inr (.inr v2)), none, none, some (.inl v5), none, some (.inl r2)] [] h1)))) := (zx_unfold zblk xs 29 52 _ rfl _ _ _).trans rfl
theorem e_29_73 (xs : List Int) (p : Nat) (v1 : Int) (v2 : Option Nat) (v5 : Int) (v7 : Int) (h : zH) : zx zblk xs 29 73 [some (.inr (.inr (some p))), some (.inl v1), some (.inr (.inr v2)), none, none, some (.inl v5), none, some (.inl v7)] [] h = zx zblk xs 29 80 [some (.inr (.inr (some p))), some (.inl v1), some (.inr (.inr v2)), some (.inl v5), some (.inl v7), some (.inl v5)] [] h := (zx_unfold zblk xs 29 73 _ rfl _ _ _).trans rfl
theorem e_29_80 (xs : List Int) (p : Nat) (v1 : Int) (v2 : Option Nat) (v3 : Int) (v4 : Int) (v5 : Int) (h : zH) : zx zblk xs 29 80 [some (.inr (.inr (some p))), some (.inl v1), some (.inr (.inr v2)), some (.inl v3), some (.inl v4), some (.inl v5)] [] h = zx zblk xs 29 21 [some (.inr (.inr (some p))), some (.inl v1), some (.inr (.inr v2)), some (.inl v3), some (.inl v4), some (.inl (v5 + 1))] [] h := (zx_unfold zblk xs 29 80 _ rfl _ _ _).trans rfl
theorem e_29_86 (xs : List Int) (v3 : Int) (h : zH) : zx zblk xs 29 86 [none, none, none, some (.inl v3)] [] h = some (some (.inl v3), h) := (zx_unfold zblk xs 29 86 _ rfl _ _ _).trans rfl
/-- MindReaders.luck(IIII)J -/
theorem e_30_0 (xs : List Int) (v1 : Int) (v2 : Int) (v3 : Int) (v4 : Int) (h : zH) : zx zblk xs 30 0 [none, some (.inl v1), some (.inl v2), some (.inl v3), some (.inl v4)] [] h = (if zw v1 < zw 1 then zx zblk xs 30 39 [] [] h else (if zw 12 < zw v1 then zx zblk xs 30 39 [] [] h else (if zw v2 < zw 2 then zx zblk xs 30 39 [] [] h else (if zw 9 < zw v2 then zx zblk xs 30 39 [] [] h else (if zw v3 < 0 then zx zblk xs 30 39 [] [] h else (if zw v1 < zw v3 then zx zblk xs 30 39 [] [] h else (zci (zx zblk xs 47 0 [some (.inl v4)] [] h) fun r2 h1 => (if zw r2 ≠ 0 then zx zblk xs 30 43 [none, some (.inl v1), some (.inl v2), some (.inl v3), some (.inl v4)] [] h1 else zx zblk xs 30 39 [] [] h1)))))))) := (zx_unfold zblk xs 30 0 _ rfl _ _ _).trans rfl
theorem e_30_39 (xs : List Int)  (h : zH) : zx zblk xs 30 39 [] [] h = some (some (.inr (.inl (-102))), h) := (zx_unfold zblk xs 30 39 _ rfl _ _ _).trans rfl
theorem e_30_43 (xs : List Int) (v1 : Int) (v2 : Int) (v3 : Int) (v4 : Int) (h : zH) : zx zblk xs 30 43 [none, some (.inl v1), some (.inl v2), some (.inl v3), some (.inl v4)] [] h = zx zblk xs 30 49 [none, some (.inl v1), some (.inl v2), none, some (.inl v4), some (.inr (.inl 0)), none, some (.inl v3)] [] h := (zx_unfold zblk xs 30 43 _ rfl _ _ _).trans rfl
theorem e_30_49 (xs : List Int) (v1 : Int) (v2 : Int) (v4 : Int) (v5 : Int) (v7 : Int) (h : zH) : zx zblk xs 30 49 [none, some (.inl v1), some (.inl v2), none, some (.inl v4), some (.inr (.inl v5)), none, some (.inl v7)] [] h = (if zw v1 < zw v7 then zx zblk xs 30 84 [none, some (.inl v1), some (.inl v2), none, some (.inl v4), some (.inr (.inl v5))] [] h else (zcl (zx zblk xs 62 0 [some (.inl v1), some (.inl v7)] [] h) fun r2 h1 => (zcl (zx zblk xs 63 0 [some (.inr (.inl (zw (v2 - 1)))), none, some (.inl (v1 - v7))] [] h1) fun r4 h3 => zx zblk xs 30 49 [none, some (.inl v1), some (.inl v2), none, some (.inl v4), some (.inr (.inl (v5 + (r2 * r4)))), none, some (.inl (v7 + 1))] [] h3))) := (zx_unfold zblk xs 30 49 _ rfl _ _ _).trans rfl
theorem e_30_84 (xs : List Int) (v1 : Int) (v2 : Int) (v4 : Int) (v5 : Int) (h : zH) : zx zblk xs 30 84 [none, some (.inl v1), some (.inl v2), none, some (.inl v4), some (.inr (.inl v5))] [] h = (zcl (zx zblk xs 63 0 [some (.inr (.inl (zw v2))), none, some (.inl v1)] [] h) fun r2 h1 => (zcl (zx zblk xs 64 0 [some (.inr (.inl v5)), none, some (.inr (.inl r2)), none, some (.inl v4)] [] h1) fun r4 h3 => some (some (.inr (.inl r4)), h3))) := (zx_unfold zblk xs 30 84 _ rfl _ _ _).trans rfl
/-- MindReaders.left(II)I -/
theorem e_31_0 (xs : List Int) (p : Nat) (v1 : Int) (v2 : Int) (h : zH) : zx zblk xs 31 0 [some (.inr (.inr (some p))), some (.inl v1), some (.inl v2)] [] h = (zck h (some p) 6 (zcr (zx zblk xs 49 0 [some (.inr (.inr (some p))), some (.inl v1)] [] h) fun r2 h1 => (zif r2 (some (some (.inl (-101)), h1)) (zx zblk xs 31 13 [some (.inr (.inr (some p))), none, some (.inl v2), some (.inr (.inr r2))] [] h1)))) := (zx_unfold zblk xs 31 0 _ rfl _ _ _).trans rfl
theorem e_31_13 (xs : List Int) (p : Nat) (v2 : Int) (v3 : Option Nat) (h : zH) : zx zblk xs 31 13 [some (.inr (.inr (some p))), none, some (.inl v2), some (.inr (.inr v3))] [] h = (if zw v2 < 0 then zx zblk xs 31 24 [] [] h else (if zw v2 ≤ zw 255 then zx zblk xs 31 27 [some (.inr (.inr (some p))), none, some (.inl v2), some (.inr (.inr v3))] [] h else zx zblk xs 31 24 [] [] h)) := (zx_unfold zblk xs 31 13 _ rfl _ _ _).trans rfl
theorem e_31_24 (xs : List Int)  (h : zH) : zx zblk xs 31 24 [] [] h = some (some (.inl (-102)), h) := (zx_unfold zblk xs 31 24 _ rfl _ _ _).trans rfl
theorem e_31_27 (xs : List Int) (p : Nat) (v2 : Int) (v3 : Option Nat) (h : zH) : zx zblk xs 31 27 [some (.inr (.inr (some p))), none, some (.inl v2), some (.inr (.inr v3))] [] h = (zck h (some p) 6 (zci (zx zblk xs 65 0 [some (.inr (.inr (some p))), some (.inr (.inr v3)), some (.inl v2), some (.inl 8)] [] h) fun r2 h1 => some (some (.inl r2), h1))) := (zx_unfold zblk xs 31 27 _ rfl _ _ _).trans rfl
/-- MindReaders.stop(I)I -/
theorem e_32_0 (xs : List Int) (p : Nat) (v1 : Int) (h : zH) : zx zblk xs 32 0 [some (.inr (.inr (some p))), some (.inl v1)] [] h = (zck h (some p) 6 (zcr (zx zblk xs 49 0 [some (.inr (.inr (some p))), some (.inl v1)] [] h) fun r2 h1 => (zif r2 (some (some (.inl (-101)), h1)) (zx zblk xs 32 13 [some (.inr (.inr (some p))), none, some (.inr (.inr r2))] [] h1)))) := (zx_unfold zblk xs 32 0 _ rfl _ _ _).trans rfl
theorem e_32_13 (xs : List Int) (p : Nat) (v2 : Option Nat) (h : zH) : zx zblk xs 32 13 [some (.inr (.inr (some p))), none, some (.inr (.inr v2))] [] h = zx zblk xs 32 15 [some (.inr (.inr (some p))), none, some (.inr (.inr v2)), some (.inl 0)] [] h := (zx_unfold zblk xs 32 13 _ rfl _ _ _).trans rfl
theorem e_32_15 (xs : List Int) (p : Nat) (v2 : Option Nat) (v3 : Int) (h : zH) : zx zblk xs 32 15 [some (.inr (.inr (some p))), none, some (.inr (.inr v2)), some (.inl v3)] [] h = (if zw 8 ≤ zw v3 then zx zblk xs 32 68 [] [] h else zx zblk xs 32 24 [some (.inr (.inr (some p))), none, some (.inr (.inr v2)), some (.inl v3), some (.inl 0)] [] h) := (zx_unfold zblk xs 32 15 _ rfl _ _ _).trans rfl
theorem e_32_24 (xs : List Int) (p : Nat) (v2 : Option Nat) (v3 : Int) (v4 : Int) (h : zH) : zx zblk xs 32 24 [some (.inr (.inr (some p))), none, some (.inr (.inr v2)), some (.inl v3), some (.inl v4)] [] h = (if zw 255 < zw v4 then zx zblk xs 32 62 [some (.inr (.inr (some p))), none, some (.inr (.inr v2)), some (.inl v3)] [] h else (zci (zx zblk xs 199 0 [some (.inl v4)] [] h) fun r2 h1 => (if zw r2 ≠ zw v3 then zx zblk xs 32 56 [some (.inr (.inr (some p))), none, some (.inr (.inr v2)), some (.inl v3), some (.inl v4)] [] h1 else (zck h1 (some p) 6 (zci (zx zblk xs 65 0 [some (.inr (.inr (some p))), some (.inr (.inr v2)), some (.inl v4), some (.inl 2)] [] h1) fun r4 h3 => (if zw 1 < zw r4 then zx zblk xs 32 56 [some (.inr (.inr (some p))), none, some (.inr (.inr v2)), some (.inl v3), some (.inl v4)] [] h3 else some (some (.inl v4), h3))))))) := (zx_unfold zblk xs 32 24 _ rfl _ _ _).trans rfl
theorem e_32_56 (xs : List Int) (p : Nat) (v2 : Option Nat) (v3 : Int) (v4 : Int) (h : zH) : zx zblk xs 32 56 [some (.inr (.inr (some p))), none, some (.inr (.inr v2)), some (.inl v3), some (.inl v4)] [] h = zx zblk xs 32 24 [some (.inr (.inr (some p))), none, some (.inr (.inr v2)), some (.inl v3), some (.inl (v4 + 1))] [] h := (zx_unfold zblk xs 32 56 _ rfl _ _ _).trans rfl
theorem e_32_62 (xs : List Int) (p : Nat) (v2 : Option Nat) (v3 : Int) (h : zH) : zx zblk xs 32 62 [some (.inr (.inr (some p))), none, some (.inr (.inr v2)), some (.inl v3)] [] h = zx zblk xs 32 15 [some (.inr (.inr (some p))), none, some (.inr (.inr v2)), some (.inl (v3 + 1))] [] h := (zx_unfold zblk xs 32 62 _ rfl _ _ _).trans rfl
theorem e_32_68 (xs : List Int)  (h : zH) : zx zblk xs 32 68 [] [] h = some (some (.inl 255), h) := (zx_unfold zblk xs 32 68 _ rfl _ _ _).trans rfl
/-- MindReaders.image()I -/
theorem e_33_0 (xs : List Int) (p : Nat) (h : zH) : zx zblk xs 33 0 [some (.inr (.inr (some p)))] [] h = (zgr h (some p) 6 6 fun f1 => (zgr h (some p) 6 1 fun f2 => (zck h f1 3 (zcv (zx zblk xs 177 0 [some (.inr (.inr f1)), some (.inr (.inr f2))] [] h) fun h3 => (zgr h3 (some p) 6 7 fun f4 => (zgr h3 (some p) 6 5 fun f5 => (zck h3 f4 1 (zcv (zx zblk xs 164 0 [some (.inr (.inr f4)), some (.inr (.inr f5))] [] h3) fun h6 => (if 1 = 0 ∨ 1 = 1 then (zpf h6 (some p) 6 8 (.inl 1) fun h7 => (zgr h7 (some p) 6 1 fun f8 => (zck h7 f8 3 (zci (zx zblk xs 171 0 [some (.inr (.inr f8))] [] h7) fun r10 h9 => some (some (.inl r10), h9))))) else none))))))))) := (zx_unfold zblk xs 33 0 _ rfl _ _ _).trans rfl
/-- MindReaders.restore()I -/
theorem e_34_0 (xs : List Int) (p : Nat) (h : zH) : zx zblk xs 34 0 [some (.inr (.inr (some p)))] [] h = (zgi h (some p) 6 8 fun f1 => (if zw f1 ≠ 0 then zx zblk xs 34 10 [some (.inr (.inr (some p)))] [] h else some (some (.inl (-103)), h))) := (zx_unfold zblk xs 34 0 _ rfl _ _ _).trans rfl
theorem e_34_10 (xs : List Int) (p : Nat) (h : zH) : zx zblk xs 34 10 [some (.inr (.inr (some p)))] [] h = zx zblk xs 34 12 [some (.inr (.inr (some p))), some (.inl 0)] [] h := (zx_unfold zblk xs 34 10 _ rfl _ _ _).trans rfl
theorem e_34_12 (xs : List Int) (p : Nat) (v1 : Int) (h : zH) : zx zblk xs 34 12 [some (.inr (.inr (some p))), some (.inl v1)] [] h = (zgr h (some p) 6 6 fun f1 => (zck h f1 3 (zci (zx zblk xs 171 0 [some (.inr (.inr f1))] [] h) fun r3 h2 => (if zw r3 ≤ zw v1 then zx zblk xs 34 45 [some (.inr (.inr (some p)))] [] h2 else (zgr h2 (some p) 6 1 fun f4 => (zgr h2 (some p) 6 6 fun f5 => (zck h2 f5 3 (zci (zx zblk xs 172 0 [some (.inr (.inr f5)), some (.inl v1)] [] h2) fun r7 h6 => (zck h6 f4 3 (zcv (zx zblk xs 173 0 [some (.inr (.inr f4)), some (.inl v1), some (.inl r7)] [] h6) fun h8 => zx zblk xs 34 12 [some (.inr (.inr (some p))), some (.inl (v1 + 1))] [] h8)))))))))) := (zx_unfold zblk xs 34 12 _ rfl _ _ _).trans rfl
theorem e_34_45 (xs : List Int) (p : Nat) (h : zH) : zx zblk xs 34 45 [some (.inr (.inr (some p)))] [] h = (zgr h (some p) 6 5 fun f1 => (zgr h (some p) 6 7 fun f2 => (zck h f1 1 (zcv (zx zblk xs 164 0 [some (.inr (.inr f1)), some (.inr (.inr f2))] [] h) fun h3 => (zgr h3 (some p) 6 1 fun f4 => (zck h3 f4 3 (zci (zx zblk xs 171 0 [some (.inr (.inr f4))] [] h3) fun r6 h5 => some (some (.inl r6), h5)))))))) := (zx_unfold zblk xs 34 45 _ rfl _ _ _).trans rfl
/-- MindReaders.count(I)I -/
theorem e_35_0 (xs : List Int) (p : Nat) (v1 : Int) (h : zH) : zx zblk xs 35 0 [some (.inr (.inr (some p))), some (.inl v1)] [] h = (if zw v1 < 0 ∨ 5 < zw v1 then zx zblk xs 35 92 [some (.inr (.inr (some p)))] [] h else zsel ([40, 48, 56, 61, 69, 77][(zw v1 - 0).toNat]?) fun t => zx zblk xs 35 t [some (.inr (.inr (some p)))] [] h) := (zx_unfold zblk xs 35 0 _ rfl _ _ _).trans rfl
theorem e_35_40 (xs : List Int) (p : Nat) (h : zH) : zx zblk xs 35 40 [some (.inr (.inr (some p)))] [] h = (zgr h (some p) 6 0 fun f1 => (zck h f1 5 (zci (zx zblk xs 188 0 [some (.inr (.inr f1))] [] h) fun r3 h2 => some (some (.inl r3), h2)))) := (zx_unfold zblk xs 35 40 _ rfl _ _ _).trans rfl
theorem e_35_48 (xs : List Int) (p : Nat) (h : zH) : zx zblk xs 35 48 [some (.inr (.inr (some p)))] [] h = (zgr h (some p) 6 1 fun f1 => (zck h f1 3 (zci (zx zblk xs 171 0 [some (.inr (.inr f1))] [] h) fun r3 h2 => some (some (.inl r3), h2)))) := (zx_unfold zblk xs 35 48 _ rfl _ _ _).trans rfl
theorem e_35_56 (xs : List Int) (p : Nat) (h : zH) : zx zblk xs 35 56 [some (.inr (.inr (some p)))] [] h = (zgi h (some p) 6 3 fun f1 => some (some (.inl f1), h)) := (zx_unfold zblk xs 35 56 _ rfl _ _ _).trans rfl
theorem e_35_61 (xs : List Int) (p : Nat) (h : zH) : zx zblk xs 35 61 [some (.inr (.inr (some p)))] [] h = (zgr h (some p) 6 5 fun f1 => (zck h f1 1 (zci (zx zblk xs 159 0 [some (.inr (.inr f1))] [] h) fun r3 h2 => some (some (.inl r3), h2)))) := (zx_unfold zblk xs 35 61 _ rfl _ _ _).trans rfl
theorem e_35_69 (xs : List Int) (p : Nat) (h : zH) : zx zblk xs 35 69 [some (.inr (.inr (some p)))] [] h = (zgr h (some p) 6 4 fun f1 => (zck h f1 3 (zci (zx zblk xs 171 0 [some (.inr (.inr f1))] [] h) fun r3 h2 => some (some (.inl r3), h2)))) := (zx_unfold zblk xs 35 69 _ rfl _ _ _).trans rfl
theorem e_35_77 (xs : List Int) (p : Nat) (h : zH) : zx zblk xs 35 77 [some (.inr (.inr (some p)))] [] h = (zgr h (some p) 6 1 fun f1 => (zgr h (some p) 6 1 fun f2 => (zck h f2 3 (zci (zx zblk xs 171 0 [some (.inr (.inr f2))] [] h) fun r4 h3 => (zck h3 f1 3 (zci (zx zblk xs 182 0 [some (.inr (.inr f1)), some (.inl r4)] [] h3) fun r6 h5 => some (some (.inl r6), h5))))))) := (zx_unfold zblk xs 35 77 _ rfl _ _ _).trans rfl
theorem e_35_92 (xs : List Int) (p : Nat) (h : zH) : zx zblk xs 35 92 [some (.inr (.inr (some p)))] [] h = some (some (.inl (-102)), h) := (zx_unfold zblk xs 35 92 _ rfl _ _ _).trans rfl
/-- MindReaders.digest()J -/
theorem e_36_0 (xs : List Int) (p : Nat) (h : zH) : zx zblk xs 36 0 [some (.inr (.inr (some p)))] [] h = zx zblk xs 36 6 [some (.inr (.inr (some p))), some (.inr (.inl 479)), none, some (.inl 0)] [] h := (zx_unfold zblk xs 36 0 _ rfl _ _ _).trans rfl
theorem e_36_6 (xs : List Int) (p : Nat) (v1 : Int) (v3 : Int) (h : zH) : zx zblk xs 36 6 [some (.inr (.inr (some p))), some (.inr (.inl v1)), none, some (.inl v3)] [] h = (zgr h (some p) 6 0 fun f1 => (zck h f1 5 (zci (zx zblk xs 188 0 [some (.inr (.inr f1))] [] h) fun r3 h2 => (if zw r3 ≤ zw v3 then zx zblk xs 36 51 [some (.inr (.inr (some p))), some (.inr (.inl v1))] [] h2 else zx zblk xs 36 20 [some (.inr (.inr (some p))), some (.inr (.inl v1)), none, some (.inl v3), some (.inl 0)] [] h2)))) := (zx_unfold zblk xs 36 6 _ rfl _ _ _).trans rfl
theorem e_36_20 (xs : List Int) (p : Nat) (v1 : Int) (v3 : Int) (v4 : Int) (h : zH) : zx zblk xs 36 20 [some (.inr (.inr (some p))), some (.inr (.inl v1)), none, some (.inl v3), some (.inl v4)] [] h = (if zw 3 < zw v4 then zx zblk xs 36 45 [some (.inr (.inr (some p))), some (.inr (.inl v1)), none, some (.inl v3)] [] h else (zck h (some p) 6 (zci (zx zblk xs 8 0 [some (.inr (.inr (some p))), some (.inl v3), some (.inl v4)] [] h) fun r2 h1 => (zcl (zx zblk xs 37 0 [some (.inr (.inl v1)), none, some (.inr (.inl (zw r2))), none] [] h1) fun r4 h3 => zx zblk xs 36 20 [some (.inr (.inr (some p))), some (.inr (.inl r4)), none, some (.inl v3), some (.inl (v4 + 1))] [] h3)))) := (zx_unfold zblk xs 36 20 _ rfl _ _ _).trans rfl
theorem e_36_45 (xs : List Int) (p : Nat) (v1 : Int) (v3 : Int) (h : zH) : zx zblk xs 36 45 [some (.inr (.inr (some p))), some (.inr (.inl v1)), none, some (.inl v3)] [] h = zx zblk xs 36 6 [some (.inr (.inr (some p))), some (.inr (.inl v1)), none, some (.inl (v3 + 1))] [] h := (zx_unfold zblk xs 36 45 _ rfl _ _ _).trans rfl
theorem e_36_51 (xs : List Int) (p : Nat) (v1 : Int) (h : zH) : zx zblk xs 36 51 [some (.inr (.inr (some p))), some (.inr (.inl v1))] [] h = (zgr h (some p) 6 1 fun f1 => (zcl (zx zblk xs 38 0 [some (.inr (.inl v1)), none, some (.inr (.inr f1))] [] h) fun r3 h2 => zx zblk xs 36 62 [some (.inr (.inr (some p))), some (.inr (.inl r3)), none, some (.inl 0)] [] h2)) := (zx_unfold zblk xs 36 51 _ rfl _ _ _).trans rfl
theorem e_36_62 (xs : List Int) (p : Nat) (v1 : Int) (v3 : Int) (h : zH) : zx zblk xs 36 62 [some (.inr (.inr (some p))), some (.inr (.inl v1)), none, some (.inl v3)] [] h = (zgi h (some p) 6 3 fun f1 => (if zw f1 ≤ zw v3 then zx zblk xs 36 97 [some (.inr (.inr (some p))), some (.inr (.inl v1))] [] h else (zck h (some p) 6 (zcr (zx zblk xs 49 0 [some (.inr (.inr (some p))), some (.inl v3)] [] h) fun r3 h2 => (zif r3 (zx zblk xs 36 91 [some (.inr (.inr (some p))), some (.inr (.inl v1)), none, some (.inl v3)] [] h2) ((zck h2 (some p) 6 (zcl (zx zblk xs 39 0 [some (.inr (.inr (some p))), some (.inr (.inl v1)), none, some (.inl v3), some (.inr (.inr r3))] [] h2) fun r5 h4 => zx zblk xs 36 91 [some (.inr (.inr (some p))), some (.inr (.inl r5)), none, some (.inl v3)] [] h4)))))))) := (zx_unfold zblk xs 36 62 _ rfl _ _ _).trans rfl
theorem e_36_91 (xs : List Int) (p : Nat) (v1 : Int) (v3 : Int) (h : zH) : zx zblk xs 36 91 [some (.inr (.inr (some p))), some (.inr (.inl v1)), none, some (.inl v3)] [] h = zx zblk xs 36 62 [some (.inr (.inr (some p))), some (.inr (.inl v1)), none, some (.inl (v3 + 1))] [] h := (zx_unfold zblk xs 36 91 _ rfl _ _ _).trans rfl
theorem e_36_97 (xs : List Int) (p : Nat) (v1 : Int) (h : zH) : zx zblk xs 36 97 [some (.inr (.inr (some p))), some (.inr (.inl v1))] [] h = zx zblk xs 36 99 [some (.inr (.inr (some p))), some (.inr (.inl v1)), none, some (.inl 0)] [] h := (zx_unfold zblk xs 36 97 _ rfl _ _ _).trans rfl
theorem e_36_99 (xs : List Int) (p : Nat) (v1 : Int) (v3 : Int) (h : zH) : zx zblk xs 36 99 [some (.inr (.inr (some p))), some (.inr (.inl v1)), none, some (.inl v3)] [] h = (zgr h (some p) 6 5 fun f1 => (zck h f1 1 (zci (zx zblk xs 159 0 [some (.inr (.inr f1))] [] h) fun r3 h2 => (if zw r3 ≤ zw v3 then zx zblk xs 36 160 [some (.inr (.inr (some p))), some (.inr (.inl v1))] [] h2 else (zgr h2 (some p) 6 5 fun f4 => (zck h2 f4 1 (zci (zx zblk xs 160 0 [some (.inr (.inr f4)), some (.inl v3)] [] h2) fun r6 h5 => (zcl (zx zblk xs 37 0 [some (.inr (.inl v1)), none, some (.inr (.inl (zw r6))), none] [] h5) fun r8 h7 => (zgr h7 (some p) 6 5 fun f9 => (zck h7 f9 1 (zcr (zx zblk xs 161 0 [some (.inr (.inr f9)), some (.inl v3)] [] h7) fun r11 h10 => (zck h10 r11 3 (zci (zx zblk xs 171 0 [some (.inr (.inr r11))] [] h10) fun r13 h12 => (zcl (zx zblk xs 37 0 [some (.inr (.inl r8)), none, some (.inr (.inl (zw r13))), none] [] h12) fun r15 h14 => (zgr h14 (some p) 6 5 fun f16 => (zck h14 f16 1 (zcr (zx zblk xs 161 0 [some (.inr (.inr f16)), some (.inl v3)] [] h14) fun r18 h17 => (zcl (zx zblk xs 38 0 [some (.inr (.inl r15)), none, some (.inr (.inr r18))] [] h17) fun r20 h19 => zx zblk xs 36 99 [some (.inr (.inr (some p))), some (.inr (.inl r20)), none, some (.inl (v3 + 1))] [] h19)))))))))))))))))) := (zx_unfold zblk xs 36 99 _ rfl _ _ _).trans rfl
theorem e_36_160 (xs : List Int) (p : Nat) (v1 : Int) (h : zH) : zx zblk xs 36 160 [some (.inr (.inr (some p))), some (.inr (.inl v1))] [] h = (zck h (some p) 6 (zci (zx zblk xs 25 0 [some (.inr (.inr (some p)))] [] h) fun r2 h1 => (zcl (zx zblk xs 37 0 [some (.inr (.inl v1)), none, some (.inr (.inl (zw r2))), none] [] h1) fun r4 h3 => (zgr h3 (some p) 6 4 fun f5 => (zcl (zx zblk xs 38 0 [some (.inr (.inl r4)), none, some (.inr (.inr f5))] [] h3) fun r7 h6 => zx zblk xs 36 181 [some (.inr (.inr (some p))), some (.inr (.inl r7)), none, some (.inl 0)] [] h6))))) := (zx_unfold zblk xs 36 160 _ rfl _ _ _).trans rfl
theorem e_36_181 (xs : List Int) (p : Nat) (v1 : Int) (v3 : Int) (h : zH) : zx zblk xs 36 181 [some (.inr (.inr (some p))), some (.inr (.inl v1)), none, some (.inl v3)] [] h = (if zw 5 < zw v3 then zx zblk xs 36 203 [none, some (.inr (.inl v1))] [] h else (zck h (some p) 6 (zci (zx zblk xs 35 0 [some (.inr (.inr (some p))), some (.inl v3)] [] h) fun r2 h1 => (zcl (zx zblk xs 37 0 [some (.inr (.inl v1)), none, some (.inr (.inl (zw r2))), none] [] h1) fun r4 h3 => zx zblk xs 36 181 [some (.inr (.inr (some p))), some (.inr (.inl r4)), none, some (.inl (v3 + 1))] [] h3)))) := (zx_unfold zblk xs 36 181 _ rfl _ _ _).trans rfl
theorem e_36_203 (xs : List Int) (v1 : Int) (h : zH) : zx zblk xs 36 203 [none, some (.inr (.inl v1))] [] h = some (some (.inr (.inl v1)), h) := (zx_unfold zblk xs 36 203 _ rfl _ _ _).trans rfl
/-- MindReaders.mix(JJ)J -/
theorem e_37_0 (xs : List Int) (v0 : Int) (v2 : Int) (h : zH) : zx zblk xs 37 0 [some (.inr (.inl v0)), none, some (.inr (.inl v2))] [] h = some (some (.inr (.inl ((31 * v0) + v2))), h) := (zx_unfold zblk xs 37 0 _ rfl _ _ _).trans rfl
/-- MindReaders.mixRow(JLMindReaders$Row;)J -/
theorem e_38_0 (xs : List Int) (v0 : Int) (v2 : Option Nat) (h : zH) : zx zblk xs 38 0 [some (.inr (.inl v0)), none, some (.inr (.inr v2))] [] h = zx zblk xs 38 5 [none, none, some (.inr (.inr v2)), some (.inr (.inl v0)), none, some (.inl 0)] [] h := (zx_unfold zblk xs 38 0 _ rfl _ _ _).trans rfl
theorem e_38_5 (xs : List Int) (v2 : Option Nat) (v3 : Int) (v5 : Int) (h : zH) : zx zblk xs 38 5 [none, none, some (.inr (.inr v2)), some (.inr (.inl v3)), none, some (.inl v5)] [] h = (zck h v2 3 (zci (zx zblk xs 171 0 [some (.inr (.inr v2))] [] h) fun r2 h1 => (if zw r2 ≤ zw v5 then zx zblk xs 38 32 [none, none, none, some (.inr (.inl v3))] [] h1 else (zck h1 v2 3 (zci (zx zblk xs 172 0 [some (.inr (.inr v2)), some (.inl v5)] [] h1) fun r4 h3 => (zcl (zx zblk xs 37 0 [some (.inr (.inl v3)), none, some (.inr (.inl (zw r4))), none] [] h3) fun r6 h5 => zx zblk xs 38 5 [none, none, some (.inr (.inr v2)), some (.inr (.inl r6)), none, some (.inl (v5 + 1))] [] h5)))))) := (zx_unfold zblk xs 38 5 _ rfl _ _ _).trans rfl
theorem e_38_32 (xs : List Int) (v3 : Int) (h : zH) : zx zblk xs 38 32 [none, none, none, some (.inr (.inl v3))] [] h = some (some (.inr (.inl v3)), h) := (zx_unfold zblk xs 38 32 _ rfl _ _ _).trans rfl
/-- MindReaders.mixCode(JILMindReaders$Code;)J -/
theorem e_39_0 (xs : List Int) (p : Nat) (v1 : Int) (v3 : Int) (v4 : Option Nat) (h : zH) : zx zblk xs 39 0 [some (.inr (.inr (some p))), some (.inr (.inl v1)), none, some (.inl v3), some (.inr (.inr v4))] [] h = zx zblk xs 39 6 [some (.inr (.inr (some p))), none, none, some (.inl v3), some (.inr (.inr v4)), some (.inr (.inl v1)), none, some (.inl 0)] [] h := (zx_unfold zblk xs 39 0 _ rfl _ _ _).trans rfl
theorem e_39_6 (xs : List Int) (p : Nat) (v3 : Int) (v4 : Option Nat) (v5 : Int) (v7 : Int) (h : zH) : zx zblk xs 39 6 [some (.inr (.inr (some p))), none, none, some (.inl v3), some (.inr (.inr v4)), some (.inr (.inl v5)), none, some (.inl v7)] [] h = (zck h v4 0 (zci (zx zblk xs 148 0 [some (.inr (.inr v4))] [] h) fun r2 h1 => (if zw r2 ≤ zw v7 then zx zblk xs 39 88 [some (.inr (.inr (some p))), none, none, some (.inl v3), some (.inr (.inr v4)), some (.inr (.inl v5))] [] h1 else zx zblk xs 39 19 [some (.inr (.inr (some p))), none, none, some (.inl v3), some (.inr (.inr v4)), some (.inr (.inl v5)), none, some (.inl v7), some (.inl 0)] [] h1))) := (zx_unfold zblk xs 39 6 _ rfl _ _ _).trans rfl
theorem e_39_19 (xs : List Int) (p : Nat) (v3 : Int) (v4 : Option Nat) (v5 : Int) (v7 : Int) (v8 : Int) (h : zH) : zx zblk xs 39 19 [some (.inr (.inr (some p))), none, none, some (.inl v3), some (.inr (.inr v4)), some (.inr (.inl v5)), none, some (.inl v7), some (.inl v8)] [] h = (if zw 5 < zw v8 then zx zblk xs 39 48 [some (.inr (.inr (some p))), none, none, some (.inl v3), some (.inr (.inr v4)), some (.inr (.inl v5)), none, some (.inl v7)] [] h else (zck h (some p) 6 (zci (zx zblk xs 11 0 [some (.inr (.inr (some p))), some (.inl v3), some (.inl v7), some (.inl v8)] [] h) fun r2 h1 => (zcl (zx zblk xs 37 0 [some (.inr (.inl v5)), none, some (.inr (.inl (zw r2))), none] [] h1) fun r4 h3 => zx zblk xs 39 19 [some (.inr (.inr (some p))), none, none, some (.inl v3), some (.inr (.inr v4)), some (.inr (.inl r4)), none, some (.inl v7), some (.inl (v8 + 1))] [] h3)))) := (zx_unfold zblk xs 39 19 _ rfl _ _ _).trans rfl
theorem e_39_48 (xs : List Int) (p : Nat) (v3 : Int) (v4 : Option Nat) (v5 : Int) (v7 : Int) (h : zH) : zx zblk xs 39 48 [some (.inr (.inr (some p))), none, none, some (.inl v3), some (.inr (.inr v4)), some (.inr (.inl v5)), none, some (.inl v7)] [] h = (zck h (some p) 6 (zci (zx zblk xs 11 0 [some (.inr (.inr (some p))), some (.inl v3), some (.inl v7), some (.inl 10)] [] h) fun r2 h1 => (zcl (zx zblk xs 37 0 [some (.inr (.inl v5)), none, some (.inr (.inl (zw r2))), none] [] h1) fun r4 h3 => (zck h3 (some p) 6 (zci (zx zblk xs 11 0 [some (.inr (.inr (some p))), some (.inl v3), some (.inl v7), some (.inl 30)] [] h3) fun r6 h5 => (zcl (zx zblk xs 37 0 [some (.inr (.inl r4)), none, some (.inr (.inl (zw r6))), none] [] h5) fun r8 h7 => zx zblk xs 39 6 [some (.inr (.inr (some p))), none, none, some (.inl v3), some (.inr (.inr v4)), some (.inr (.inl r8)), none, some (.inl (v7 + 1))] [] h7)))))) := (zx_unfold zblk xs 39 48 _ rfl _ _ _).trans rfl
theorem e_39_88 (xs : List Int) (p : Nat) (v3 : Int) (v4 : Option Nat) (v5 : Int) (h : zH) : zx zblk xs 39 88 [some (.inr (.inr (some p))), none, none, some (.inl v3), some (.inr (.inr v4)), some (.inr (.inl v5))] [] h = (zck h (some p) 6 (zci (zx zblk xs 13 0 [some (.inr (.inr (some p))), some (.inl v3), some (.inl 0)] [] h) fun r2 h1 => (zcl (zx zblk xs 37 0 [some (.inr (.inl v5)), none, some (.inr (.inl (zw r2))), none] [] h1) fun r4 h3 => (zgr h3 (some p) 6 13 fun f5 => (zck h3 f5 2 (zci (zx zblk xs 166 0 [some (.inr (.inr f5)), some (.inr (.inr v4))] [] h3) fun r7 h6 => (zcl (zx zblk xs 37 0 [some (.inr (.inl r4)), none, some (.inr (.inl (zw r7))), none] [] h6) fun r9 h8 => (zck h8 (some p) 6 (zci (zx zblk xs 17 0 [some (.inr (.inr (some p))), some (.inl v3)] [] h8) fun r11 h10 => (zcl (zx zblk xs 37 0 [some (.inr (.inl r9)), none, some (.inr (.inl (zw r11))), none] [] h10) fun r13 h12 => (zck h12 (some p) 6 (zci (zx zblk xs 20 0 [some (.inr (.inr (some p))), some (.inl v3)] [] h12) fun r15 h14 => (zcl (zx zblk xs 37 0 [some (.inr (.inl r13)), none, some (.inr (.inl (zw r15))), none] [] h14) fun r17 h16 => (zck h16 (some p) 6 (zci (zx zblk xs 32 0 [some (.inr (.inr (some p))), some (.inl v3)] [] h16) fun r19 h18 => (zcl (zx zblk xs 37 0 [some (.inr (.inl r17)), none, some (.inr (.inl (zw r19))), none] [] h18) fun r21 h20 => some (some (.inr (.inl r21)), h20))))))))))))))))) := (zx_unfold zblk xs 39 88 _ rfl _ _ _).trans rfl
/-- MindReaders.byteOf(JI)I -/
theorem e_40_0 (xs : List Int) (v0 : Int) (v2 : Int) (h : zH) : zx zblk xs 40 0 [some (.inr (.inl v0)), none, some (.inl v2)] [] h = some (some (.inl (zandl (zushrl v0 (8 * v2)) 255)), h) := (zx_unfold zblk xs 40 0 _ rfl _ _ _).trans rfl
/-- MindReaders.lettersIn(J)I -/
theorem e_41_0 (xs : List Int) (v0 : Int) (h : zH) : zx zblk xs 41 0 [some (.inr (.inl v0))] [] h = zx zblk xs 41 4 [some (.inr (.inl v0)), none, some (.inl 0), some (.inl 0)] [] h := (zx_unfold zblk xs 41 0 _ rfl _ _ _).trans rfl
theorem e_41_4 (xs : List Int) (v0 : Int) (v2 : Int) (v3 : Int) (h : zH) : zx zblk xs 41 4 [some (.inr (.inl v0)), none, some (.inl v2), some (.inl v3)] [] h = (if zw 8 ≤ zw v3 then zx zblk xs 41 50 [none, none, some (.inl v2)] [] h else (zci (zx zblk xs 40 0 [some (.inr (.inl v0)), none, some (.inl v3)] [] h) fun r2 h1 => (if zw 126 < zw r2 then zx zblk xs 41 34 [] [] h1 else (if zw r2 = 0 then zx zblk xs 41 36 [some (.inr (.inl v0)), none, some (.inl v2), some (.inl v3), some (.inl r2)] [] h1 else (if zw v3 ≤ zw v2 then zx zblk xs 41 36 [some (.inr (.inl v0)), none, some (.inl v2), some (.inl v3), some (.inl r2)] [] h1 else zx zblk xs 41 34 [] [] h1))))) := (zx_unfold zblk xs 41 4 _ rfl _ _ _).trans rfl
theorem e_41_34 (xs : List Int)  (h : zH) : zx zblk xs 41 34 [] [] h = some (some (.inl (-1)), h) := (zx_unfold zblk xs 41 34 _ rfl _ _ _).trans rfl
theorem e_41_36 (xs : List Int) (v0 : Int) (v2 : Int) (v3 : Int) (v4 : Int) (h : zH) : zx zblk xs 41 36 [some (.inr (.inl v0)), none, some (.inl v2), some (.inl v3), some (.inl v4)] [] h = (if zw v4 = 0 then zx zblk xs 41 44 [some (.inr (.inl v0)), none, some (.inl v2), some (.inl v3)] [] h else zx zblk xs 41 44 [some (.inr (.inl v0)), none, some (.inl (v2 + 1)), some (.inl v3)] [] h) := (zx_unfold zblk xs 41 36 _ rfl _ _ _).trans rfl
theorem e_41_44 (xs : List Int) (v0 : Int) (v2 : Int) (v3 : Int) (h : zH) : zx zblk xs 41 44 [some (.inr (.inl v0)), none, some (.inl v2), some (.inl v3)] [] h = zx zblk xs 41 4 [some (.inr (.inl v0)), none, some (.inl v2), some (.inl (v3 + 1))] [] h := (zx_unfold zblk xs 41 44 _ rfl _ _ _).trans rfl
theorem e_41_50 (xs : List Int) (v2 : Int) (h : zH) : zx zblk xs 41 50 [none, none, some (.inl v2)] [] h = some (some (.inl v2), h) := (zx_unfold zblk xs 41 50 _ rfl _ _ _).trans rfl
/-- MindReaders.signalOf(I)I -/
theorem e_42_0 (xs : List Int) (v0 : Int) (h : zH) : zx zblk xs 42 0 [some (.inl v0)] [] h = (if zw v0 < zw 97 then zx zblk xs 42 19 [] [] h else (if zw 104 < zw v0 then zx zblk xs 42 19 [] [] h else zx zblk xs 42 20 [] [.inl (v0 - 97)] h)) := (zx_unfold zblk xs 42 0 _ rfl _ _ _).trans rfl
theorem e_42_19 (xs : List Int)  (h : zH) : zx zblk xs 42 19 [] [] h = zx zblk xs 42 20 [] [.inl (-1)] h := (zx_unfold zblk xs 42 19 _ rfl _ _ _).trans rfl
theorem e_42_20 (xs : List Int) (s0 : Int) (h : zH) : zx zblk xs 42 20 [] [.inl s0] h = some (some (.inl s0), h) := (zx_unfold zblk xs 42 20 _ rfl _ _ _).trans rfl
/-- MindReaders.firstFault()I -/
theorem e_43_0 (xs : List Int) (p : Nat) (h : zH) : zx zblk xs 43 0 [some (.inr (.inr (some p)))] [] h = zx zblk xs 43 6 [some (.inr (.inr (some p))), some (.inl 0), some (.inl 0), some (.inl 0)] [] h := (zx_unfold zblk xs 43 0 _ rfl _ _ _).trans rfl
theorem e_43_6 (xs : List Int) (p : Nat) (v1 : Int) (v2 : Int) (v3 : Int) (h : zH) : zx zblk xs 43 6 [some (.inr (.inr (some p))), some (.inl v1), some (.inl v2), some (.inl v3)] [] h = (zgr h (some p) 6 4 fun f1 => (zck h f1 3 (zci (zx zblk xs 171 0 [some (.inr (.inr f1))] [] h) fun r3 h2 => (if zw r3 ≤ zw v3 then zx zblk xs 43 80 [some (.inr (.inr (some p)))] [] h2 else (zgr h2 (some p) 6 4 fun f4 => (zck h2 f4 3 (zci (zx zblk xs 172 0 [some (.inr (.inr f4)), some (.inl v3)] [] h2) fun r6 h5 => (zci (zx zblk xs 42 0 [some (.inl r6)] [] h5) fun r8 h7 => (if zw r8 = zw (-1) then zx zblk xs 43 47 [some (.inr (.inr (some p))), some (.inl v1), some (.inl v2), some (.inl v3), some (.inl r6)] [] h7 else (if zw 5 ≤ zw v2 then zx zblk xs 43 47 [some (.inr (.inr (some p))), some (.inl v1), some (.inl v2), some (.inl v3), some (.inl r6)] [] h7 else zx zblk xs 43 74 [some (.inr (.inr (some p))), some (.inl v1), some (.inl (v2 + 1)), some (.inl v3)] [] h7)))))))))) := (zx_unfold zblk xs 43 6 _ rfl _ _ _).trans rfl
theorem e_43_47 (xs : List Int) (p : Nat) (v1 : Int) (v2 : Int) (v3 : Int) (v4 : Int) (h : zH) : zx zblk xs 43 47 [some (.inr (.inr (some p))), some (.inl v1), some (.inl v2), some (.inl v3), some (.inl v4)] [] h = (if zw v4 ≠ zw 44 then zx zblk xs 43 72 [none, none, none, some (.inl v3)] [] h else (if zw v2 ≤ 0 then zx zblk xs 43 72 [none, none, none, some (.inl v3)] [] h else (if zw 7 ≤ zw v1 then zx zblk xs 43 72 [none, none, none, some (.inl v3)] [] h else zx zblk xs 43 74 [some (.inr (.inr (some p))), some (.inl (v1 + 1)), some (.inl 0), some (.inl v3)] [] h))) := (zx_unfold zblk xs 43 47 _ rfl _ _ _).trans rfl
theorem e_43_72 (xs : List Int) (v3 : Int) (h : zH) : zx zblk xs 43 72 [none, none, none, some (.inl v3)] [] h = some (some (.inl v3), h) := (zx_unfold zblk xs 43 72 _ rfl _ _ _).trans rfl
theorem e_43_74 (xs : List Int) (p : Nat) (v1 : Int) (v2 : Int) (v3 : Int) (h : zH) : zx zblk xs 43 74 [some (.inr (.inr (some p))), some (.inl v1), some (.inl v2), some (.inl v3)] [] h = zx zblk xs 43 6 [some (.inr (.inr (some p))), some (.inl v1), some (.inl v2), some (.inl (v3 + 1))] [] h := (zx_unfold zblk xs 43 74 _ rfl _ _ _).trans rfl
theorem e_43_80 (xs : List Int) (p : Nat) (h : zH) : zx zblk xs 43 80 [some (.inr (.inr (some p)))] [] h = (zgr h (some p) 6 4 fun f1 => (zck h f1 3 (zci (zx zblk xs 171 0 [some (.inr (.inr f1))] [] h) fun r3 h2 => some (some (.inl r3), h2)))) := (zx_unfold zblk xs 43 80 _ rfl _ _ _).trans rfl
/-- MindReaders.readPage()Z -/
theorem e_44_0 (xs : List Int) (p : Nat) (h : zH) : zx zblk xs 44 0 [some (.inr (.inr (some p)))] [] h = (zgr h (some p) 6 9 fun f1 => (zck h f1 3 (zcv (zx zblk xs 176 0 [some (.inr (.inr f1))] [] h) fun h2 => zx zblk xs 44 9 [some (.inr (.inr (some p))), some (.inl 0)] [] h2))) := (zx_unfold zblk xs 44 0 _ rfl _ _ _).trans rfl
theorem e_44_9 (xs : List Int) (p : Nat) (v1 : Int) (h : zH) : zx zblk xs 44 9 [some (.inr (.inr (some p))), some (.inl v1)] [] h = (zgr h (some p) 6 4 fun f1 => (zck h f1 3 (zci (zx zblk xs 171 0 [some (.inr (.inr f1))] [] h) fun r3 h2 => (if zw r3 ≤ zw v1 then zx zblk xs 44 53 [] [] h2 else (zgr h2 (some p) 6 4 fun f4 => (zck h2 f4 3 (zci (zx zblk xs 172 0 [some (.inr (.inr f4)), some (.inl v1)] [] h2) fun r6 h5 => (zci (zx zblk xs 42 0 [some (.inl r6)] [] h5) fun r8 h7 => (if zw r8 ≠ zw (-1) then zx zblk xs 44 39 [some (.inr (.inr (some p))), some (.inl v1), some (.inl r8)] [] h7 else (if 0 = 0 ∨ 0 = 1 then some (some (.inl 0), h7) else none)))))))))) := (zx_unfold zblk xs 44 9 _ rfl _ _ _).trans rfl
theorem e_44_39 (xs : List Int) (p : Nat) (v1 : Int) (v2 : Int) (h : zH) : zx zblk xs 44 39 [some (.inr (.inr (some p))), some (.inl v1), some (.inl v2)] [] h = (zgr h (some p) 6 9 fun f1 => (zck h f1 3 (zcv (zx zblk xs 174 0 [some (.inr (.inr f1)), some (.inl v2)] [] h) fun h2 => zx zblk xs 44 9 [some (.inr (.inr (some p))), some (.inl (v1 + 1))] [] h2))) := (zx_unfold zblk xs 44 39 _ rfl _ _ _).trans rfl
theorem e_44_53 (xs : List Int)  (h : zH) : zx zblk xs 44 53 [] [] h = (if 1 = 0 ∨ 1 = 1 then some (some (.inl 1), h) else none) := (zx_unfold zblk xs 44 53 _ rfl _ _ _).trans rfl
/-- MindReaders.hearPage()Z -/
theorem e_45_0 (xs : List Int) (p : Nat) (h : zH) : zx zblk xs 45 0 [some (.inr (.inr (some p)))] [] h = (zck h (some p) 6 (zci (zx zblk xs 44 0 [some (.inr (.inr (some p)))] [] h) fun r2 h1 => (if zw r2 ≠ 0 then zx zblk xs 45 9 [some (.inr (.inr (some p)))] [] h1 else (if 0 = 0 ∨ 0 = 1 then some (some (.inl 0), h1) else none)))) := (zx_unfold zblk xs 45 0 _ rfl _ _ _).trans rfl
theorem e_45_9 (xs : List Int) (p : Nat) (h : zH) : zx zblk xs 45 9 [some (.inr (.inr (some p)))] [] h = (zgr h (some p) 6 0 fun f1 => (zgr h (some p) 6 9 fun f2 => (zgr h (some p) 6 10 fun f3 => (zck h f1 5 (zcv (zx zblk xs 198 0 [some (.inr (.inr f1)), some (.inr (.inr f2)), some (.inl 0), some (.inr (.inr f3))] [] h) fun h4 => (if 1 = 0 ∨ 1 = 1 then some (some (.inl 1), h4) else none)))))) := (zx_unfold zblk xs 45 9 _ rfl _ _ _).trans rfl
/-- MindReaders.isWeight(I)Z -/
theorem e_46_0 (xs : List Int) (v0 : Int) (h : zH) : zx zblk xs 46 0 [some (.inl v0)] [] h = (if zw v0 < zw 1 then zx zblk xs 46 15 [] [] h else (if zw 99 < zw v0 then zx zblk xs 46 15 [] [] h else zx zblk xs 46 16 [] [.inl 1] h)) := (zx_unfold zblk xs 46 0 _ rfl _ _ _).trans rfl
theorem e_46_15 (xs : List Int)  (h : zH) : zx zblk xs 46 15 [] [] h = zx zblk xs 46 16 [] [.inl 0] h := (zx_unfold zblk xs 46 15 _ rfl _ _ _).trans rfl
theorem e_46_16 (xs : List Int) (s0 : Int) (h : zH) : zx zblk xs 46 16 [] [.inl s0] h = (if s0 = 0 ∨ s0 = 1 then some (some (.inl s0), h) else none) := (zx_unfold zblk xs 46 16 _ rfl _ _ _).trans rfl
/-- MindReaders.isPart(I)Z -/
theorem e_47_0 (xs : List Int) (v0 : Int) (h : zH) : zx zblk xs 47 0 [some (.inl v0)] [] h = (if zw v0 = 0 then zx zblk xs 47 9 [] [] h else (if zw v0 ≠ zw 1 then zx zblk xs 47 13 [] [] h else zx zblk xs 47 9 [] [] h)) := (zx_unfold zblk xs 47 0 _ rfl _ _ _).trans rfl
theorem e_47_9 (xs : List Int)  (h : zH) : zx zblk xs 47 9 [] [] h = zx zblk xs 47 14 [] [.inl 1] h := (zx_unfold zblk xs 47 9 _ rfl _ _ _).trans rfl
theorem e_47_13 (xs : List Int)  (h : zH) : zx zblk xs 47 13 [] [] h = zx zblk xs 47 14 [] [.inl 0] h := (zx_unfold zblk xs 47 13 _ rfl _ _ _).trans rfl
theorem e_47_14 (xs : List Int) (s0 : Int) (h : zH) : zx zblk xs 47 14 [] [.inl s0] h = (if s0 = 0 ∨ s0 = 1 then some (some (.inl s0), h) else none) := (zx_unfold zblk xs 47 14 _ rfl _ _ _).trans rfl
/-- MindReaders.isThing(I)Z -/
theorem e_48_0 (xs : List Int) (p : Nat) (v1 : Int) (h : zH) : zx zblk xs 48 0 [some (.inr (.inr (some p))), some (.inl v1)] [] h = (if zw v1 < 0 then zx zblk xs 48 19 [] [] h else (zgr h (some p) 6 1 fun f1 => (zck h f1 3 (zci (zx zblk xs 171 0 [some (.inr (.inr f1))] [] h) fun r3 h2 => (if zw r3 ≤ zw v1 then zx zblk xs 48 19 [] [] h2 else zx zblk xs 48 20 [] [.inl 1] h2))))) := (zx_unfold zblk xs 48 0 _ rfl _ _ _).trans rfl
theorem e_48_19 (xs : List Int)  (h : zH) : zx zblk xs 48 19 [] [] h = zx zblk xs 48 20 [] [.inl 0] h := (zx_unfold zblk xs 48 19 _ rfl _ _ _).trans rfl
theorem e_48_20 (xs : List Int) (s0 : Int) (h : zH) : zx zblk xs 48 20 [] [.inl s0] h = (if s0 = 0 ∨ s0 = 1 then some (some (.inl s0), h) else none) := (zx_unfold zblk xs 48 20 _ rfl _ _ _).trans rfl
/-- MindReaders.codeAt(I)LMindReaders$Code; -/
theorem e_49_0 (xs : List Int) (p : Nat) (v1 : Int) (h : zH) : zx zblk xs 49 0 [some (.inr (.inr (some p))), some (.inl v1)] [] h = (if zw v1 < 0 then zx zblk xs 49 30 [] [] h else (zgi h (some p) 6 3 fun f1 => (if zw f1 ≤ zw v1 then zx zblk xs 49 30 [] [] h else (zgr h (some p) 6 2 fun f2 => (zln xs h f2 fun n3 => (if zw n3 ≤ zw v1 then zx zblk xs 49 30 [] [] h else (zgr h (some p) 6 2 fun f4 => (zaa xs h f4 102 v1 fun a5 => zx zblk xs 49 31 [] [.inr (.inr a5)] h)))))))) := (zx_unfold zblk xs 49 0 _ rfl _ _ _).trans rfl
theorem e_49_30 (xs : List Int)  (h : zH) : zx zblk xs 49 30 [] [] h = zx zblk xs 49 31 [] [.inr (.inr none)] h := (zx_unfold zblk xs 49 30 _ rfl _ _ _).trans rfl
theorem e_49_31 (xs : List Int) (s0 : Option Nat) (h : zH) : zx zblk xs 49 31 [] [.inr (.inr s0)] h = some (some (.inr (.inr s0)), h) := (zx_unfold zblk xs 49 31 _ rfl _ _ _).trans rfl
/-- MindReaders.thingsSaid(LMindReaders$Code;)I -/
theorem e_50_0 (xs : List Int) (p : Nat) (v1 : Option Nat) (h : zH) : zx zblk xs 50 0 [some (.inr (.inr (some p))), some (.inr (.inr v1))] [] h = (zck h v1 0 (zci (zx zblk xs 148 0 [some (.inr (.inr v1))] [] h) fun r2 h1 => (zgr h1 (some p) 6 1 fun f3 => (zck h1 f3 3 (zci (zx zblk xs 171 0 [some (.inr (.inr f3))] [] h1) fun r5 h4 => some (some (.inl (if zw r5 < zw r2 then r5 else r2)), h4)))))) := (zx_unfold zblk xs 50 0 _ rfl _ _ _).trans rfl
/-- MindReaders.longOf(LMindReaders$Code;I)I -/
theorem e_51_0 (xs : List Int) (p : Nat) (v1 : Option Nat) (v2 : Int) (h : zH) : zx zblk xs 51 0 [some (.inr (.inr (some p))), some (.inr (.inr v1)), some (.inl v2)] [] h = (zgr h (some p) 6 0 fun f1 => (zck h v1 0 (zcr (zx zblk xs 149 0 [some (.inr (.inr v1)), some (.inl v2)] [] h) fun r3 h2 => (zck h2 f1 5 (zci (zx zblk xs 196 0 [some (.inr (.inr f1)), some (.inr (.inr r3))] [] h2) fun r5 h4 => some (some (.inl r5), h4)))))) := (zx_unfold zblk xs 51 0 _ rfl _ _ _).trans rfl
/-- MindReaders.ofPair(II)I -/
theorem e_52_0 (xs : List Int) (v0 : Int) (v1 : Int) (h : zH) : zx zblk xs 52 0 [some (.inl v0), some (.inl v1)] [] h = (if zw v0 ≠ zw (-1) then zx zblk xs 52 7 [some (.inl v0), some (.inl v1)] [] h else some (some (.inl (-1)), h)) := (zx_unfold zblk xs 52 0 _ rfl _ _ _).trans rfl
theorem e_52_7 (xs : List Int) (v0 : Int) (v1 : Int) (h : zH) : zx zblk xs 52 7 [some (.inl v0), some (.inl v1)] [] h = (if zw v1 ≠ 0 then zx zblk xs 52 18 [some (.inl v0)] [] h else (if zw 8 = 0 then none else zx zblk xs 52 22 [] [.inl ((zw v0).tdiv (zw 8))] h)) := (zx_unfold zblk xs 52 7 _ rfl _ _ _).trans rfl
theorem e_52_18 (xs : List Int) (v0 : Int) (h : zH) : zx zblk xs 52 18 [some (.inl v0)] [] h = (if zw 8 = 0 then none else zx zblk xs 52 22 [] [.inl ((zw v0).tmod (zw 8))] h) := (zx_unfold zblk xs 52 18 _ rfl _ _ _).trans rfl
theorem e_52_22 (xs : List Int) (s0 : Int) (h : zH) : zx zblk xs 52 22 [] [.inl s0] h = some (some (.inl s0), h) := (zx_unfold zblk xs 52 22 _ rfl _ _ _).trans rfl
/-- MindReaders.dealtTo(LMindReaders$Code;I)I -/
theorem e_53_0 (xs : List Int) (p : Nat) (v1 : Option Nat) (v2 : Int) (h : zH) : zx zblk xs 53 0 [some (.inr (.inr (some p))), some (.inr (.inr v1)), some (.inl v2)] [] h = (zck h (some p) 6 (zci (zx zblk xs 50 0 [some (.inr (.inr (some p))), some (.inr (.inr v1))] [] h) fun r2 h1 => (if zw v2 < 0 then zx zblk xs 53 15 [] [] h1 else (if zw v2 < zw r2 then zx zblk xs 53 17 [some (.inr (.inr (some p))), some (.inr (.inr v1)), some (.inl v2), some (.inl r2)] [] h1 else zx zblk xs 53 15 [] [] h1)))) := (zx_unfold zblk xs 53 0 _ rfl _ _ _).trans rfl
theorem e_53_15 (xs : List Int)  (h : zH) : zx zblk xs 53 15 [] [] h = some (some (.inl (-1)), h) := (zx_unfold zblk xs 53 15 _ rfl _ _ _).trans rfl
theorem e_53_17 (xs : List Int) (p : Nat) (v1 : Option Nat) (v2 : Int) (v3 : Int) (h : zH) : zx zblk xs 53 17 [some (.inr (.inr (some p))), some (.inr (.inr v1)), some (.inl v2), some (.inl v3)] [] h = zx zblk xs 53 23 [some (.inr (.inr (some p))), some (.inr (.inr v1)), some (.inl v2), some (.inl v3), some (.inl 0), some (.inl 0)] [] h := (zx_unfold zblk xs 53 17 _ rfl _ _ _).trans rfl
theorem e_53_23 (xs : List Int) (p : Nat) (v1 : Option Nat) (v2 : Int) (v3 : Int) (v4 : Int) (v5 : Int) (h : zH) : zx zblk xs 53 23 [some (.inr (.inr (some p))), some (.inr (.inr v1)), some (.inl v2), some (.inl v3), some (.inl v4), some (.inl v5)] [] h = (if zw v3 ≤ zw v5 then zx zblk xs 53 66 [some (.inr (.inr (some p))), some (.inr (.inr v1)), none, some (.inl v3), some (.inl v4)] [] h else (zgr h (some p) 6 1 fun f1 => (zck h f1 3 (zci (zx zblk xs 172 0 [some (.inr (.inr f1)), some (.inl v5)] [] h) fun r3 h2 => (zgr h2 (some p) 6 1 fun f4 => (zck h2 f4 3 (zci (zx zblk xs 172 0 [some (.inr (.inr f4)), some (.inl v2)] [] h2) fun r6 h5 => (zci (zx zblk xs 55 0 [some (.inl (-r3)), some (.inl v5), some (.inl (-r6)), some (.inl v2)] [] h5) fun r8 h7 => (if zw r8 = 0 then zx zblk xs 53 60 [some (.inr (.inr (some p))), some (.inr (.inr v1)), some (.inl v2), some (.inl v3), some (.inl v4), some (.inl v5)] [] h7 else zx zblk xs 53 60 [some (.inr (.inr (some p))), some (.inr (.inr v1)), some (.inl v2), some (.inl v3), some (.inl (v4 + 1)), some (.inl v5)] [] h7))))))))) := (zx_unfold zblk xs 53 23 _ rfl _ _ _).trans rfl
theorem e_53_60 (xs : List Int) (p : Nat) (v1 : Option Nat) (v2 : Int) (v3 : Int) (v4 : Int) (v5 : Int) (h : zH) : zx zblk xs 53 60 [some (.inr (.inr (some p))), some (.inr (.inr v1)), some (.inl v2), some (.inl v3), some (.inl v4), some (.inl v5)] [] h = zx zblk xs 53 23 [some (.inr (.inr (some p))), some (.inr (.inr v1)), some (.inl v2), some (.inl v3), some (.inl v4), some (.inl (v5 + 1))] [] h := (zx_unfold zblk xs 53 60 _ rfl _ _ _).trans rfl
theorem e_53_66 (xs : List Int) (p : Nat) (v1 : Option Nat) (v3 : Int) (v4 : Int) (h : zH) : zx zblk xs 53 66 [some (.inr (.inr (some p))), some (.inr (.inr v1)), none, some (.inl v3), some (.inl v4)] [] h = zx zblk xs 53 69 [some (.inr (.inr (some p))), some (.inr (.inr v1)), none, some (.inl v3), some (.inl v4), some (.inl 0)] [] h := (zx_unfold zblk xs 53 66 _ rfl _ _ _).trans rfl
theorem e_53_69 (xs : List Int) (p : Nat) (v1 : Option Nat) (v3 : Int) (v4 : Int) (v5 : Int) (h : zH) : zx zblk xs 53 69 [some (.inr (.inr (some p))), some (.inr (.inr v1)), none, some (.inl v3), some (.inl v4), some (.inl v5)] [] h = (if zw v3 ≤ zw v5 then zx zblk xs 53 97 [] [] h else (zck h (some p) 6 (zci (zx zblk xs 54 0 [some (.inr (.inr (some p))), some (.inr (.inr v1)), some (.inl v5), some (.inl v3)] [] h) fun r2 h1 => (if zw r2 ≠ zw v4 then zx zblk xs 53 91 [some (.inr (.inr (some p))), some (.inr (.inr v1)), none, some (.inl v3), some (.inl v4), some (.inl v5)] [] h1 else some (some (.inl v5), h1))))) := (zx_unfold zblk xs 53 69 _ rfl _ _ _).trans rfl
theorem e_53_91 (xs : List Int) (p : Nat) (v1 : Option Nat) (v3 : Int) (v4 : Int) (v5 : Int) (h : zH) : zx zblk xs 53 91 [some (.inr (.inr (some p))), some (.inr (.inr v1)), none, some (.inl v3), some (.inl v4), some (.inl v5)] [] h = zx zblk xs 53 69 [some (.inr (.inr (some p))), some (.inr (.inr v1)), none, some (.inl v3), some (.inl v4), some (.inl (v5 + 1))] [] h := (zx_unfold zblk xs 53 91 _ rfl _ _ _).trans rfl
theorem e_53_97 (xs : List Int)  (h : zH) : zx zblk xs 53 97 [] [] h = some (some (.inl (-1)), h) := (zx_unfold zblk xs 53 97 _ rfl _ _ _).trans rfl
/-- MindReaders.rankByLong(LMindReaders$Code;II)I -/
theorem e_54_0 (xs : List Int) (p : Nat) (v1 : Option Nat) (v2 : Int) (v3 : Int) (h : zH) : zx zblk xs 54 0 [some (.inr (.inr (some p))), some (.inr (.inr v1)), some (.inl v2), some (.inl v3)] [] h = zx zblk xs 54 6 [some (.inr (.inr (some p))), some (.inr (.inr v1)), some (.inl v2), some (.inl v3), some (.inl 0), some (.inl 0)] [] h := (zx_unfold zblk xs 54 0 _ rfl _ _ _).trans rfl
theorem e_54_6 (xs : List Int) (p : Nat) (v1 : Option Nat) (v2 : Int) (v3 : Int) (v4 : Int) (v5 : Int) (h : zH) : zx zblk xs 54 6 [some (.inr (.inr (some p))), some (.inr (.inr v1)), some (.inl v2), some (.inl v3), some (.inl v4), some (.inl v5)] [] h = (if zw v3 ≤ zw v5 then zx zblk xs 54 43 [none, none, none, none, some (.inl v4)] [] h else (zck h (some p) 6 (zci (zx zblk xs 51 0 [some (.inr (.inr (some p))), some (.inr (.inr v1)), some (.inl v5)] [] h) fun r2 h1 => (zck h1 (some p) 6 (zci (zx zblk xs 51 0 [some (.inr (.inr (some p))), some (.inr (.inr v1)), some (.inl v2)] [] h1) fun r4 h3 => (zci (zx zblk xs 55 0 [some (.inl r2), some (.inl v5), some (.inl r4), some (.inl v2)] [] h3) fun r6 h5 => (if zw r6 = 0 then zx zblk xs 54 37 [some (.inr (.inr (some p))), some (.inr (.inr v1)), some (.inl v2), some (.inl v3), some (.inl v4), some (.inl v5)] [] h5 else zx zblk xs 54 37 [some (.inr (.inr (some p))), some (.inr (.inr v1)), some (.inl v2), some (.inl v3), some (.inl (v4 + 1)), some (.inl v5)] [] h5))))))) := (zx_unfold zblk xs 54 6 _ rfl _ _ _).trans rfl
theorem e_54_37 (xs : List Int) (p : Nat) (v1 : Option Nat) (v2 : Int) (v3 : Int) (v4 : Int) (v5 : Int) (h : zH) : zx zblk xs 54 37 [some (.inr (.inr (some p))), some (.inr (.inr v1)), some (.inl v2), some (.inl v3), some (.inl v4), some (.inl v5)] [] h = zx zblk xs 54 6 [some (.inr (.inr (some p))), some (.inr (.inr v1)), some (.inl v2), some (.inl v3), some (.inl v4), some (.inl (v5 + 1))] [] h := (zx_unfold zblk xs 54 37 _ rfl _ _ _).trans rfl
theorem e_54_43 (xs : List Int) (v4 : Int) (h : zH) : zx zblk xs 54 43 [none, none, none, none, some (.inl v4)] [] h = some (some (.inl v4), h) := (zx_unfold zblk xs 54 43 _ rfl _ _ _).trans rfl
/-- MindReaders.isAhead(IIII)Z -/
theorem e_55_0 (xs : List Int) (v0 : Int) (v1 : Int) (v2 : Int) (v3 : Int) (h : zH) : zx zblk xs 55 0 [some (.inl v0), some (.inl v1), some (.inl v2), some (.inl v3)] [] h = (if zw v0 < zw v2 then zx zblk xs 55 15 [] [] h else (if zw v0 ≠ zw v2 then zx zblk xs 55 19 [] [] h else (if zw v3 ≤ zw v1 then zx zblk xs 55 19 [] [] h else zx zblk xs 55 15 [] [] h))) := (zx_unfold zblk xs 55 0 _ rfl _ _ _).trans rfl
theorem e_55_15 (xs : List Int)  (h : zH) : zx zblk xs 55 15 [] [] h = zx zblk xs 55 20 [] [.inl 1] h := (zx_unfold zblk xs 55 15 _ rfl _ _ _).trans rfl
theorem e_55_19 (xs : List Int)  (h : zH) : zx zblk xs 55 19 [] [] h = zx zblk xs 55 20 [] [.inl 0] h := (zx_unfold zblk xs 55 19 _ rfl _ _ _).trans rfl
theorem e_55_20 (xs : List Int) (s0 : Int) (h : zH) : zx zblk xs 55 20 [] [.inl s0] h = (if s0 = 0 ∨ s0 = 1 then some (some (.inl s0), h) else none) := (zx_unfold zblk xs 55 20 _ rfl _ _ _).trans rfl
/-- MindReaders.changeOf(LMindReaders$Code;LMindReaders$Code;)I -/
theorem e_56_0 (xs : List Int) (p : Nat) (v1 : Option Nat) (v2 : Option Nat) (h : zH) : zx zblk xs 56 0 [some (.inr (.inr (some p))), some (.inr (.inr v1)), some (.inr (.inr v2))] [] h = zx zblk xs 56 5 [some (.inr (.inr (some p))), some (.inr (.inr v1)), some (.inr (.inr v2)), some (.inl 0), some (.inl 0)] [] h := (zx_unfold zblk xs 56 0 _ rfl _ _ _).trans rfl
theorem e_56_5 (xs : List Int) (p : Nat) (v1 : Option Nat) (v2 : Option Nat) (v3 : Int) (v4 : Int) (h : zH) : zx zblk xs 56 5 [some (.inr (.inr (some p))), some (.inr (.inr v1)), some (.inr (.inr v2)), some (.inl v3), some (.inl v4)] [] h = (zck h v2 0 (zci (zx zblk xs 148 0 [some (.inr (.inr v2))] [] h) fun r2 h1 => (if zw r2 ≤ zw v4 then zx zblk xs 56 57 [none, none, none, some (.inl v3)] [] h1 else (zck h1 v1 0 (zci (zx zblk xs 148 0 [some (.inr (.inr v1))] [] h1) fun r4 h3 => (if zw r4 ≤ zw v4 then zx zblk xs 56 41 [some (.inr (.inr (some p))), some (.inr (.inr v1)), some (.inr (.inr v2)), some (.inl v3), some (.inl v4)] [] h3 else (zck h3 v1 0 (zcr (zx zblk xs 149 0 [some (.inr (.inr v1)), some (.inl v4)] [] h3) fun r6 h5 => (zck h5 v2 0 (zcr (zx zblk xs 149 0 [some (.inr (.inr v2)), some (.inl v4)] [] h5) fun r8 h7 => (zck h7 r6 3 (zci (zx zblk xs 178 0 [some (.inr (.inr r6)), some (.inr (.inr r8))] [] h7) fun r10 h9 => (if zw r10 ≠ 0 then zx zblk xs 56 51 [some (.inr (.inr (some p))), some (.inr (.inr v1)), some (.inr (.inr v2)), some (.inl v3), some (.inl v4)] [] h9 else zx zblk xs 56 41 [some (.inr (.inr (some p))), some (.inr (.inr v1)), some (.inr (.inr v2)), some (.inl v3), some (.inl v4)] [] h9))))))))))))) := (zx_unfold zblk xs 56 5 _ rfl _ _ _).trans rfl
theorem e_56_41 (xs : List Int) (p : Nat) (v1 : Option Nat) (v2 : Option Nat) (v3 : Int) (v4 : Int) (h : zH) : zx zblk xs 56 41 [some (.inr (.inr (some p))), some (.inr (.inr v1)), some (.inr (.inr v2)), some (.inl v3), some (.inl v4)] [] h = (zck h (some p) 6 (zci (zx zblk xs 51 0 [some (.inr (.inr (some p))), some (.inr (.inr v2)), some (.inl v4)] [] h) fun r2 h1 => zx zblk xs 56 51 [some (.inr (.inr (some p))), some (.inr (.inr v1)), some (.inr (.inr v2)), some (.inl (v3 + r2)), some (.inl v4)] [] h1)) := (zx_unfold zblk xs 56 41 _ rfl _ _ _).trans rfl
theorem e_56_51 (xs : List Int) (p : Nat) (v1 : Option Nat) (v2 : Option Nat) (v3 : Int) (v4 : Int) (h : zH) : zx zblk xs 56 51 [some (.inr (.inr (some p))), some (.inr (.inr v1)), some (.inr (.inr v2)), some (.inl v3), some (.inl v4)] [] h = zx zblk xs 56 5 [some (.inr (.inr (some p))), some (.inr (.inr v1)), some (.inr (.inr v2)), some (.inl v3), some (.inl (v4 + 1))] [] h := (zx_unfold zblk xs 56 51 _ rfl _ _ _).trans rfl
theorem e_56_57 (xs : List Int) (v3 : Int) (h : zH) : zx zblk xs 56 57 [none, none, none, some (.inl v3)] [] h = some (some (.inl v3), h) := (zx_unfold zblk xs 56 57 _ rfl _ _ _).trans rfl
/-- MindReaders.notesLet(LMindReaders$Code;II)Z -/
theorem e_57_0 (xs : List Int) (p : Nat) (v1 : Option Nat) (v2 : Int) (v3 : Int) (h : zH) : zx zblk xs 57 0 [some (.inr (.inr (some p))), some (.inr (.inr v1)), some (.inl v2), some (.inl v3)] [] h = zx zblk xs 57 3 [some (.inr (.inr (some p))), some (.inr (.inr v1)), some (.inl v2), some (.inl v3), some (.inl 0)] [] h := (zx_unfold zblk xs 57 0 _ rfl _ _ _).trans rfl
theorem e_57_3 (xs : List Int) (p : Nat) (v1 : Option Nat) (v2 : Int) (v3 : Int) (v4 : Int) (h : zH) : zx zblk xs 57 3 [some (.inr (.inr (some p))), some (.inr (.inr v1)), some (.inl v2), some (.inl v3), some (.inl v4)] [] h = (zgr h (some p) 6 5 fun f1 => (zck h f1 1 (zci (zx zblk xs 159 0 [some (.inr (.inr f1))] [] h) fun r3 h2 => (if zw r3 ≤ zw v4 then zx zblk xs 57 88 [] [] h2 else (zgr h2 (some p) 6 5 fun f4 => (zck h2 f4 1 (zci (zx zblk xs 160 0 [some (.inr (.inr f4)), some (.inl v4)] [] h2) fun r6 h5 => (if zw r6 < 0 then zx zblk xs 57 37 [] [] h5 else (if zw r6 < zw v2 then zx zblk xs 57 39 [some (.inr (.inr (some p))), some (.inr (.inr v1)), some (.inl v2), some (.inl v3), some (.inl v4), some (.inl r6)] [] h5 else zx zblk xs 57 37 [] [] h5))))))))) := (zx_unfold zblk xs 57 3 _ rfl _ _ _).trans rfl
theorem e_57_37 (xs : List Int)  (h : zH) : zx zblk xs 57 37 [] [] h = (if 0 = 0 ∨ 0 = 1 then some (some (.inl 0), h) else none) := (zx_unfold zblk xs 57 37 _ rfl _ _ _).trans rfl
theorem e_57_39 (xs : List Int) (p : Nat) (v1 : Option Nat) (v2 : Int) (v3 : Int) (v4 : Int) (v5 : Int) (h : zH) : zx zblk xs 57 39 [some (.inr (.inr (some p))), some (.inr (.inr v1)), some (.inl v2), some (.inl v3), some (.inl v4), some (.inl v5)] [] h = (zgr h (some p) 6 0 fun f1 => (zgr h (some p) 6 5 fun f2 => (zck h f2 1 (zcr (zx zblk xs 161 0 [some (.inr (.inr f2)), some (.inl v4)] [] h) fun r4 h3 => (zgr h3 (some p) 6 10 fun f5 => (zck h3 f1 5 (zcv (zx zblk xs 198 0 [some (.inr (.inr f1)), some (.inr (.inr r4)), some (.inl 0), some (.inr (.inr f5))] [] h3) fun h6 => (zgr h6 (some p) 6 10 fun f7 => (if zw v2 = 0 then none else (zck h6 v1 0 (zcr (zx zblk xs 150 0 [some (.inr (.inr v1)), some (.inl ((zw (v5 + v3)).tmod (zw v2)))] [] h6) fun r9 h8 => (zck h8 f7 3 (zci (zx zblk xs 178 0 [some (.inr (.inr f7)), some (.inr (.inr r9))] [] h8) fun r11 h10 => (if zw r11 ≠ 0 then zx zblk xs 57 82 [some (.inr (.inr (some p))), some (.inr (.inr v1)), some (.inl v2), some (.inl v3), some (.inl v4)] [] h10 else (if 0 = 0 ∨ 0 = 1 then some (some (.inl 0), h10) else none))))))))))))))) := (zx_unfold zblk xs 57 39 _ rfl _ _ _).trans rfl
theorem e_57_82 (xs : List Int) (p : Nat) (v1 : Option Nat) (v2 : Int) (v3 : Int) (v4 : Int) (h : zH) : zx zblk xs 57 82 [some (.inr (.inr (some p))), some (.inr (.inr v1)), some (.inl v2), some (.inl v3), some (.inl v4)] [] h = zx zblk xs 57 3 [some (.inr (.inr (some p))), some (.inr (.inr v1)), some (.inl v2), some (.inl v3), some (.inl (v4 + 1))] [] h := (zx_unfold zblk xs 57 82 _ rfl _ _ _).trans rfl
theorem e_57_88 (xs : List Int)  (h : zH) : zx zblk xs 57 88 [] [] h = (if 1 = 0 ∨ 1 = 1 then some (some (.inl 1), h) else none) := (zx_unfold zblk xs 57 88 _ rfl _ _ _).trans rfl
/-- MindReaders.leastLong(I)J -/
theorem e_58_0 (xs : List Int) (p : Nat) (v1 : Int) (h : zH) : zx zblk xs 58 0 [some (.inr (.inr (some p))), some (.inl v1)] [] h = (zgr h (some p) 6 11 fun f1 => (zgr h (some p) 6 1 fun f2 => (zck h f1 3 (zcv (zx zblk xs 177 0 [some (.inr (.inr f1)), some (.inr (.inr f2))] [] h) fun h3 => (zgr h3 (some p) 6 11 fun f4 => (zck h3 f4 3 (zci (zx zblk xs 171 0 [some (.inr (.inr f4))] [] h3) fun r6 h5 => (if zw r6 < zw 2 then zx zblk xs 58 27 [] [] h5 else (if zw 2 ≤ zw v1 then zx zblk xs 58 29 [some (.inr (.inr (some p))), some (.inl v1)] [] h5 else zx zblk xs 58 27 [] [] h5))))))))) := (zx_unfold zblk xs 58 0 _ rfl _ _ _).trans rfl
theorem e_58_27 (xs : List Int)  (h : zH) : zx zblk xs 58 27 [] [] h = some (some (.inr (.inl 0)), h) := (zx_unfold zblk xs 58 27 _ rfl _ _ _).trans rfl
theorem e_58_29 (xs : List Int) (p : Nat) (v1 : Int) (h : zH) : zx zblk xs 58 29 [some (.inr (.inr (some p))), some (.inl v1)] [] h = (zgr h (some p) 6 11 fun f1 => (zck h f1 3 (zci (zx zblk xs 171 0 [some (.inr (.inr f1))] [] h) fun r3 h2 => (if zw (v1 - 1) = 0 then none else zx zblk xs 58 51 [some (.inr (.inr (some p))), some (.inl v1), some (.inr (.inl 0)), none, some (.inl (2 + ((zw (r3 - 2)).tmod (zw (v1 - 1))))), some (.inl 0)] [] h2)))) := (zx_unfold zblk xs 58 29 _ rfl _ _ _).trans rfl
theorem e_58_51 (xs : List Int) (p : Nat) (v1 : Int) (v2 : Int) (v4 : Int) (v5 : Int) (h : zH) : zx zblk xs 58 51 [some (.inr (.inr (some p))), some (.inl v1), some (.inr (.inl v2)), none, some (.inl v4), some (.inl v5)] [] h = (if zw 8 ≤ zw v5 then zx zblk xs 58 124 [none, none, some (.inr (.inl v2))] [] h else (zgr h (some p) 6 11 fun f1 => (zck h f1 3 (zci (zx zblk xs 171 0 [some (.inr (.inr f1))] [] h) fun r3 h2 => (if zw r3 ≤ zw 1 then zx zblk xs 58 124 [none, none, some (.inr (.inl v2))] [] h2 else zx zblk xs 58 75 [some (.inr (.inr (some p))), some (.inl v1), some (.inr (.inl v2)), none, some (.inl v4), some (.inl v5), some (.inl 0), some (.inl 0)] [] h2))))) := (zx_unfold zblk xs 58 51 _ rfl _ _ _).trans rfl
theorem e_58_75 (xs : List Int) (p : Nat) (v1 : Int) (v2 : Int) (v4 : Int) (v5 : Int) (v6 : Int) (v7 : Int) (h : zH) : zx zblk xs 58 75 [some (.inr (.inr (some p))), some (.inl v1), some (.inr (.inl v2)), none, some (.inl v4), some (.inl v5), some (.inl v6), some (.inl v7)] [] h = (if zw v4 ≤ zw v7 then zx zblk xs 58 100 [some (.inr (.inr (some p))), some (.inl v1), some (.inr (.inl v2)), none, none, some (.inl v5), some (.inl v6)] [] h else (zgr h (some p) 6 11 fun f1 => (zck h f1 3 (zci (zx zblk xs 183 0 [some (.inr (.inr f1))] [] h) fun r3 h2 => zx zblk xs 58 75 [some (.inr (.inr (some p))), some (.inl v1), some (.inr (.inl v2)), none, some (.inl v4), some (.inl v5), some (.inl (v6 + r3)), some (.inl (v7 + 1))] [] h2)))) := (zx_unfold zblk xs 58 75 _ rfl _ _ _).trans rfl
theorem e_58_100 (xs : List Int) (p : Nat) (v1 : Int) (v2 : Int) (v5 : Int) (v6 : Int) (h : zH) : zx zblk xs 58 100 [some (.inr (.inr (some p))), some (.inl v1), some (.inr (.inl v2)), none, none, some (.inl v5), some (.inl v6)] [] h = (zgr h (some p) 6 11 fun f1 => (zck h f1 3 (zcv (zx zblk xs 174 0 [some (.inr (.inr f1)), some (.inl v6)] [] h) fun h2 => zx zblk xs 58 51 [some (.inr (.inr (some p))), some (.inl v1), some (.inr (.inl (v2 + (zw v6)))), none, some (.inl v1), some (.inl (v5 + 1))] [] h2))) := (zx_unfold zblk xs 58 100 _ rfl _ _ _).trans rfl
theorem e_58_124 (xs : List Int) (v2 : Int) (h : zH) : zx zblk xs 58 124 [none, none, some (.inr (.inl v2))] [] h = some (some (.inr (.inl v2)), h) := (zx_unfold zblk xs 58 124 _ rfl _ _ _).trans rfl
/-- MindReaders.waysNamed(LMindReaders$Code;III)J -/
theorem e_59_0 (xs : List Int) (p : Nat) (v1 : Option Nat) (v2 : Int) (v3 : Int) (v4 : Int) (h : zH) : zx zblk xs 59 0 [some (.inr (.inr (some p))), some (.inr (.inr v1)), some (.inl v2), some (.inl v3), some (.inl v4)] [] h = (zck h v1 0 (zcr (zx zblk xs 150 0 [some (.inr (.inr v1)), some (.inl v2)] [] h) fun r2 h1 => (zgr h1 (some p) 6 10 fun f3 => (zck h1 f3 3 (zcv (zx zblk xs 176 0 [some (.inr (.inr f3))] [] h1) fun h4 => zx zblk xs 59 17 [some (.inr (.inr (some p))), some (.inr (.inr v1)), some (.inl v2), some (.inl v3), some (.inl v4), some (.inr (.inr r2)), some (.inl 0)] [] h4))))) := (zx_unfold zblk xs 59 0 _ rfl _ _ _).trans rfl
theorem e_59_17 (xs : List Int) (p : Nat) (v1 : Option Nat) (v2 : Int) (v3 : Int) (v4 : Int) (v5 : Option Nat) (v6 : Int) (h : zH) : zx zblk xs 59 17 [some (.inr (.inr (some p))), some (.inr (.inr v1)), some (.inl v2), some (.inl v3), some (.inl v4), some (.inr (.inr v5)), some (.inl v6)] [] h = (zck h v5 3 (zci (zx zblk xs 171 0 [some (.inr (.inr v5))] [] h) fun r2 h1 => (if zw r2 ≤ zw v6 then zx zblk xs 59 41 [some (.inr (.inr (some p))), some (.inr (.inr v1)), some (.inl v2), some (.inl v3), some (.inl v4), some (.inr (.inr v5))] [] h1 else (zgr h1 (some p) 6 10 fun f3 => (zck h1 f3 3 (zcv (zx zblk xs 174 0 [some (.inr (.inr f3)), some (.inl 0)] [] h1) fun h4 => zx zblk xs 59 17 [some (.inr (.inr (some p))), some (.inr (.inr v1)), some (.inl v2), some (.inl v3), some (.inl v4), some (.inr (.inr v5)), some (.inl (v6 + 1))] [] h4)))))) := (zx_unfold zblk xs 59 17 _ rfl _ _ _).trans rfl
theorem e_59_41 (xs : List Int) (p : Nat) (v1 : Option Nat) (v2 : Int) (v3 : Int) (v4 : Int) (v5 : Option Nat) (h : zH) : zx zblk xs 59 41 [some (.inr (.inr (some p))), some (.inr (.inr v1)), some (.inl v2), some (.inl v3), some (.inl v4), some (.inr (.inr v5))] [] h = (zck h v5 3 (zci (zx zblk xs 171 0 [some (.inr (.inr v5))] [] h) fun r2 h1 => (zcl (zx zblk xs 63 0 [some (.inr (.inl (zw v3))), none, some (.inl r2)] [] h1) fun r4 h3 => zx zblk xs 59 59 [some (.inr (.inr (some p))), some (.inr (.inr v1)), some (.inl v2), some (.inl v3), some (.inl v4), some (.inr (.inr v5)), some (.inr (.inl 0)), none, some (.inr (.inl r4)), none, some (.inl 0)] [] h3))) := (zx_unfold zblk xs 59 41 _ rfl _ _ _).trans rfl
theorem e_59_59 (xs : List Int) (p : Nat) (v1 : Option Nat) (v2 : Int) (v3 : Int) (v4 : Int) (v5 : Option Nat) (v6 : Int) (v8 : Int) (v10 : Int) (h : zH) : zx zblk xs 59 59 [some (.inr (.inr (some p))), some (.inr (.inr v1)), some (.inl v2), some (.inl v3), some (.inl v4), some (.inr (.inr v5)), some (.inr (.inl v6)), none, some (.inr (.inl v8)), none, some (.inl v10)] [] h = (if 0 ≤ zw (if zwl (zw v10) < zwl v8 then -1 else if zwl (zw v10) = zwl v8 then 0 else 1) then zx zblk xs 59 119 [none, none, none, none, none, none, some (.inr (.inl v6))] [] h else (zck h (some p) 6 (zcl (zx zblk xs 60 0 [some (.inr (.inr (some p))), some (.inr (.inr v5)), some (.inl v3), some (.inl v4)] [] h) fun r2 h1 => (if zw (if zwl r2 < zwl 0 then -1 else if zwl r2 = zwl 0 then 0 else 1) ≤ 0 then zx zblk xs 59 105 [some (.inr (.inr (some p))), some (.inr (.inr v1)), some (.inl v2), some (.inl v3), some (.inl v4), some (.inr (.inr v5)), some (.inr (.inl v6)), none, some (.inr (.inl v8)), none, some (.inl v10)] [] h1 else (zgr h1 (some p) 6 10 fun f3 => (zck h1 v1 0 (zci (zx zblk xs 157 0 [some (.inr (.inr v1)), some (.inr (.inr f3))] [] h1) fun r5 h4 => (if zw r5 ≠ zw v2 then zx zblk xs 59 105 [some (.inr (.inr (some p))), some (.inr (.inr v1)), some (.inl v2), some (.inl v3), some (.inl v4), some (.inr (.inr v5)), some (.inr (.inl v6)), none, some (.inr (.inl v8)), none, some (.inl v10)] [] h4 else zx zblk xs 59 105 [some (.inr (.inr (some p))), some (.inr (.inr v1)), some (.inl v2), some (.inl v3), some (.inl v4), some (.inr (.inr v5)), some (.inr (.inl (v6 + r2))), none, some (.inr (.inl v8)), none, some (.inl v10)] [] h4)))))))) := (zx_unfold zblk xs 59 59 _ rfl _ _ _).trans rfl
theorem e_59_105 (xs : List Int) (p : Nat) (v1 : Option Nat) (v2 : Int) (v3 : Int) (v4 : Int) (v5 : Option Nat) (v6 : Int) (v8 : Int) (v10 : Int) (h : zH) : zx zblk xs 59 105 [some (.inr (.inr (some p))), some (.inr (.inr v1)), some (.inl v2), some (.inl v3), some (.inl v4), some (.inr (.inr v5)), some (.inr (.inl v6)), none, some (.inr (.inl v8)), none, some (.inl v10)] [] h = (zgr h (some p) 6 10 fun f1 => (zck h f1 3 (zcv (zx zblk xs 184 0 [some (.inr (.inr f1)), some (.inl v3)] [] h) fun h2 => zx zblk xs 59 59 [some (.inr (.inr (some p))), some (.inr (.inr v1)), some (.inl v2), some (.inl v3), some (.inl v4), some (.inr (.inr v5)), some (.inr (.inl v6)), none, some (.inr (.inl v8)), none, some (.inl (v10 + 1))] [] h2))) := (zx_unfold zblk xs 59 105 _ rfl _ _ _).trans rfl
theorem e_59_119 (xs : List Int) (v6 : Int) (h : zH) : zx zblk xs 59 119 [none, none, none, none, none, none, some (.inr (.inl v6))] [] h = some (some (.inr (.inl v6)), h) := (zx_unfold zblk xs 59 119 _ rfl _ _ _).trans rfl
/-- MindReaders.waysHeard(LMindReaders$Row;II)J -/
theorem e_60_0 (xs : List Int) (p : Nat) (v1 : Option Nat) (v2 : Int) (v3 : Int) (h : zH) : zx zblk xs 60 0 [some (.inr (.inr (some p))), some (.inr (.inr v1)), some (.inl v2), some (.inl v3)] [] h = zx zblk xs 60 6 [some (.inr (.inr (some p))), some (.inr (.inr v1)), some (.inl v2), some (.inl v3), some (.inr (.inl 1)), none, some (.inl 0)] [] h := (zx_unfold zblk xs 60 0 _ rfl _ _ _).trans rfl
theorem e_60_6 (xs : List Int) (p : Nat) (v1 : Option Nat) (v2 : Int) (v3 : Int) (v4 : Int) (v6 : Int) (h : zH) : zx zblk xs 60 6 [some (.inr (.inr (some p))), some (.inr (.inr v1)), some (.inl v2), some (.inl v3), some (.inr (.inl v4)), none, some (.inl v6)] [] h = (zck h v1 3 (zci (zx zblk xs 171 0 [some (.inr (.inr v1))] [] h) fun r2 h1 => (if zw r2 ≤ zw v6 then zx zblk xs 60 58 [none, none, none, none, some (.inr (.inl v4))] [] h1 else (zgr h1 (some p) 6 10 fun f3 => (zck h1 f3 3 (zci (zx zblk xs 172 0 [some (.inr (.inr f3)), some (.inl v6)] [] h1) fun r5 h4 => (zck h4 v1 3 (zci (zx zblk xs 172 0 [some (.inr (.inr v1)), some (.inl v6)] [] h4) fun r7 h6 => (if zw r5 ≠ zw r7 then zx zblk xs 60 47 [some (.inr (.inr (some p))), some (.inr (.inr v1)), some (.inl v2), some (.inl v3), none, none, some (.inl v6)] [.inr (.inl v4)] h6 else zx zblk xs 60 49 [some (.inr (.inr (some p))), some (.inr (.inr v1)), some (.inl v2), some (.inl v3), none, none, some (.inl v6)] [.inr (.inl (zw ((10 - v3) * (v2 - 1)))), .inr (.inl v4)] h6))))))))) := (zx_unfold zblk xs 60 6 _ rfl _ _ _).trans rfl
theorem e_60_47 (xs : List Int) (p : Nat) (v1 : Option Nat) (v2 : Int) (v3 : Int) (v6 : Int) (s0 : Int) (h : zH) : zx zblk xs 60 47 [some (.inr (.inr (some p))), some (.inr (.inr v1)), some (.inl v2), some (.inl v3), none, none, some (.inl v6)] [.inr (.inl s0)] h = zx zblk xs 60 49 [some (.inr (.inr (some p))), some (.inr (.inr v1)), some (.inl v2), some (.inl v3), none, none, some (.inl v6)] [.inr (.inl (zw v3)), .inr (.inl s0)] h := (zx_unfold zblk xs 60 47 _ rfl _ _ _).trans rfl
theorem e_60_49 (xs : List Int) (p : Nat) (v1 : Option Nat) (v2 : Int) (v3 : Int) (v6 : Int) (s0 : Int) (s1 : Int) (h : zH) : zx zblk xs 60 49 [some (.inr (.inr (some p))), some (.inr (.inr v1)), some (.inl v2), some (.inl v3), none, none, some (.inl v6)] [.inr (.inl s1), .inr (.inl s0)] h = zx zblk xs 60 6 [some (.inr (.inr (some p))), some (.inr (.inr v1)), some (.inl v2), some (.inl v3), some (.inr (.inl (s0 * s1))), none, some (.inl (v6 + 1))] [] h := (zx_unfold zblk xs 60 49 _ rfl _ _ _).trans rfl
theorem e_60_58 (xs : List Int) (v4 : Int) (h : zH) : zx zblk xs 60 58 [none, none, none, none, some (.inr (.inl v4))] [] h = some (some (.inr (.inl v4)), h) := (zx_unfold zblk xs 60 58 _ rfl _ _ _).trans rfl
/-- MindReaders.waysAllSeen(I)J -/
theorem e_61_0 (xs : List Int) (p : Nat) (v1 : Int) (h : zH) : zx zblk xs 61 0 [some (.inr (.inr (some p))), some (.inl v1)] [] h = (zgr h (some p) 6 1 fun f1 => (zck h f1 3 (zci (zx zblk xs 171 0 [some (.inr (.inr f1))] [] h) fun r3 h2 => (if zw r3 ≤ zw v1 then zx zblk xs 61 15 [some (.inr (.inr (some p))), some (.inl v1), some (.inl r3)] [] h2 else some (some (.inr (.inl 0)), h2))))) := (zx_unfold zblk xs 61 0 _ rfl _ _ _).trans rfl
theorem e_61_15 (xs : List Int) (p : Nat) (v1 : Int) (v2 : Int) (h : zH) : zx zblk xs 61 15 [some (.inr (.inr (some p))), some (.inl v1), some (.inl v2)] [] h = zx zblk xs 61 20 [some (.inr (.inr (some p))), some (.inl v1), some (.inl v2), some (.inr (.inl 0)), none, some (.inl 0)] [] h := (zx_unfold zblk xs 61 15 _ rfl _ _ _).trans rfl
theorem e_61_20 (xs : List Int) (p : Nat) (v1 : Int) (v2 : Int) (v3 : Int) (v5 : Int) (h : zH) : zx zblk xs 61 20 [some (.inr (.inr (some p))), some (.inl v1), some (.inl v2), some (.inr (.inl v3)), none, some (.inl v5)] [] h = (if zw (zshl 1 v2) ≤ zw v5 then zx zblk xs 61 119 [none, none, none, some (.inr (.inl v3))] [] h else zx zblk xs 61 34 [some (.inr (.inr (some p))), some (.inl v1), some (.inl v2), some (.inr (.inl v3)), none, some (.inl v5), some (.inl 0), some (.inl 0)] [] h) := (zx_unfold zblk xs 61 20 _ rfl _ _ _).trans rfl
theorem e_61_34 (xs : List Int) (p : Nat) (v1 : Int) (v2 : Int) (v3 : Int) (v5 : Int) (v6 : Int) (v7 : Int) (h : zH) : zx zblk xs 61 34 [some (.inr (.inr (some p))), some (.inl v1), some (.inl v2), some (.inr (.inl v3)), none, some (.inl v5), some (.inl v6), some (.inl v7)] [] h = (if zw v2 ≤ zw v7 then zx zblk xs 61 68 [some (.inr (.inr (some p))), some (.inl v1), some (.inl v2), some (.inr (.inl v3)), none, some (.inl v5), some (.inl v6)] [] h else (zgr h (some p) 6 1 fun f1 => (zck h f1 3 (zci (zx zblk xs 172 0 [some (.inr (.inr f1)), some (.inl v7)] [] h) fun r3 h2 => zx zblk xs 61 34 [some (.inr (.inr (some p))), some (.inl v1), some (.inl v2), some (.inr (.inl v3)), none, some (.inl v5), some (.inl (v6 + ((zand (zshr v5 v7) 1) * r3))), some (.inl (v7 + 1))] [] h2)))) := (zx_unfold zblk xs 61 34 _ rfl _ _ _).trans rfl
theorem e_61_68 (xs : List Int) (p : Nat) (v1 : Int) (v2 : Int) (v3 : Int) (v5 : Int) (v6 : Int) (h : zH) : zx zblk xs 61 68 [some (.inr (.inr (some p))), some (.inl v1), some (.inl v2), some (.inr (.inl v3)), none, some (.inl v5), some (.inl v6)] [] h = (zci (zx zblk xs 199 0 [some (.inl v5)] [] h) fun r2 h1 => (if zw 2 = 0 then none else (if zw ((zw (v2 - r2)).tmod (zw 2)) ≠ 0 then zx zblk xs 61 84 [some (.inr (.inr (some p))), some (.inl v1), some (.inl v2), some (.inr (.inl v3)), none, some (.inl v5), some (.inl v6)] [] h1 else zx zblk xs 61 85 [some (.inr (.inr (some p))), some (.inl v1), some (.inl v2), some (.inr (.inl v3)), none, some (.inl v5), some (.inl v6)] [.inl 1] h1))) := (zx_unfold zblk xs 61 68 _ rfl _ _ _).trans rfl
theorem e_61_84 (xs : List Int) (p : Nat) (v1 : Int) (v2 : Int) (v3 : Int) (v5 : Int) (v6 : Int) (h : zH) : zx zblk xs 61 84 [some (.inr (.inr (some p))), some (.inl v1), some (.inl v2), some (.inr (.inl v3)), none, some (.inl v5), some (.inl v6)] [] h = zx zblk xs 61 85 [some (.inr (.inr (some p))), some (.inl v1), some (.inl v2), some (.inr (.inl v3)), none, some (.inl v5), some (.inl v6)] [.inl 0] h := (zx_unfold zblk xs 61 84 _ rfl _ _ _).trans rfl
theorem e_61_85 (xs : List Int) (p : Nat) (v1 : Int) (v2 : Int) (v3 : Int) (v5 : Int) (v6 : Int) (s0 : Int) (h : zH) : zx zblk xs 61 85 [some (.inr (.inr (some p))), some (.inl v1), some (.inl v2), some (.inr (.inl v3)), none, some (.inl v5), some (.inl v6)] [.inl s0] h = (if zw s0 = 0 then zx zblk xs 61 103 [some (.inr (.inr (some p))), some (.inl v1), some (.inl v2), none, none, some (.inl v5), some (.inl v6)] [.inr (.inl v3)] h else (zcl (zx zblk xs 63 0 [some (.inr (.inl (zw v6))), none, some (.inl v1)] [] h) fun r2 h1 => zx zblk xs 61 111 [some (.inr (.inr (some p))), some (.inl v1), some (.inl v2), none, none, some (.inl v5)] [.inr (.inl r2), .inr (.inl v3)] h1)) := (zx_unfold zblk xs 61 85 _ rfl _ _ _).trans rfl
theorem e_61_103 (xs : List Int) (p : Nat) (v1 : Int) (v2 : Int) (v5 : Int) (v6 : Int) (s0 : Int) (h : zH) : zx zblk xs 61 103 [some (.inr (.inr (some p))), some (.inl v1), some (.inl v2), none, none, some (.inl v5), some (.inl v6)] [.inr (.inl s0)] h = (zcl (zx zblk xs 63 0 [some (.inr (.inl (zw v6))), none, some (.inl v1)] [] h) fun r2 h1 => zx zblk xs 61 111 [some (.inr (.inr (some p))), some (.inl v1), some (.inl v2), none, none, some (.inl v5)] [.inr (.inl (-r2)), .inr (.inl s0)] h1) := (zx_unfold zblk xs 61 103 _ rfl _ _ _).trans rfl
theorem e_61_111 (xs : List Int) (p : Nat) (v1 : Int) (v2 : Int) (v5 : Int) (s0 : Int) (s1 : Int) (h : zH) : zx zblk xs 61 111 [some (.inr (.inr (some p))), some (.inl v1), some (.inl v2), none, none, some (.inl v5)] [.inr (.inl s1), .inr (.inl s0)] h = zx zblk xs 61 20 [some (.inr (.inr (some p))), some (.inl v1), some (.inl v2), some (.inr (.inl (s0 + s1))), none, some (.inl (v5 + 1))] [] h := (zx_unfold zblk xs 61 111 _ rfl _ _ _).trans rfl
theorem e_61_119 (xs : List Int) (v3 : Int) (h : zH) : zx zblk xs 61 119 [none, none, none, some (.inr (.inl v3))] [] h = some (some (.inr (.inl v3)), h) := (zx_unfold zblk xs 61 119 _ rfl _ _ _).trans rfl
/-- MindReaders.choices(II)J -/
theorem e_62_0 (xs : List Int) (v0 : Int) (v1 : Int) (h : zH) : zx zblk xs 62 0 [some (.inl v0), some (.inl v1)] [] h = zx zblk xs 62 5 [some (.inl v0), some (.inl v1), some (.inr (.inl 1)), none, some (.inl 1)] [] h := (zx_unfold zblk xs 62 0 _ rfl _ _ _).trans rfl
theorem e_62_5 (xs : List Int) (v0 : Int) (v1 : Int) (v2 : Int) (v4 : Int) (h : zH) : zx zblk xs 62 5 [some (.inl v0), some (.inl v1), some (.inr (.inl v2)), none, some (.inl v4)] [] h = (if zw v1 < zw v4 then zx zblk xs 62 31 [none, none, some (.inr (.inl v2))] [] h else (if zwl (zw v4) = 0 then none else zx zblk xs 62 5 [some (.inl v0), some (.inl v1), some (.inr (.inl ((zwl (v2 * (zw ((v0 - v1) + v4)))).tdiv (zwl (zw v4))))), none, some (.inl (v4 + 1))] [] h)) := (zx_unfold zblk xs 62 5 _ rfl _ _ _).trans rfl
theorem e_62_31 (xs : List Int) (v2 : Int) (h : zH) : zx zblk xs 62 31 [none, none, some (.inr (.inl v2))] [] h = some (some (.inr (.inl v2)), h) := (zx_unfold zblk xs 62 31 _ rfl _ _ _).trans rfl
/-- MindReaders.power(JI)J -/
theorem e_63_0 (xs : List Int) (v0 : Int) (v2 : Int) (h : zH) : zx zblk xs 63 0 [some (.inr (.inl v0)), none, some (.inl v2)] [] h = zx zblk xs 63 5 [some (.inr (.inl v0)), none, some (.inl v2), some (.inr (.inl 1)), none, some (.inl 0)] [] h := (zx_unfold zblk xs 63 0 _ rfl _ _ _).trans rfl
theorem e_63_5 (xs : List Int) (v0 : Int) (v2 : Int) (v3 : Int) (v5 : Int) (h : zH) : zx zblk xs 63 5 [some (.inr (.inl v0)), none, some (.inl v2), some (.inr (.inl v3)), none, some (.inl v5)] [] h = (if zw v2 ≤ zw v5 then zx zblk xs 63 21 [none, none, none, some (.inr (.inl v3))] [] h else zx zblk xs 63 5 [some (.inr (.inl v0)), none, some (.inl v2), some (.inr (.inl (v3 * v0))), none, some (.inl (v5 + 1))] [] h) := (zx_unfold zblk xs 63 5 _ rfl _ _ _).trans rfl
theorem e_63_21 (xs : List Int) (v3 : Int) (h : zH) : zx zblk xs 63 21 [none, none, none, some (.inr (.inl v3))] [] h = some (some (.inr (.inl v3)), h) := (zx_unfold zblk xs 63 21 _ rfl _ _ _).trans rfl
/-- MindReaders.lowest(JJI)J -/
theorem e_64_0 (xs : List Int) (v0 : Int) (v2 : Int) (v4 : Int) (h : zH) : zx zblk xs 64 0 [some (.inr (.inl v0)), none, some (.inr (.inl v2)), none, some (.inl v4)] [] h = zx zblk xs 64 9 [some (.inr (.inl v0)), none, some (.inr (.inl v2)), none, some (.inl v4), some (.inr (.inl v0)), none, some (.inr (.inl v2)), none, some (.inl 0)] [] h := (zx_unfold zblk xs 64 0 _ rfl _ _ _).trans rfl
theorem e_64_9 (xs : List Int) (v0 : Int) (v2 : Int) (v4 : Int) (v5 : Int) (v7 : Int) (v9 : Int) (h : zH) : zx zblk xs 64 9 [some (.inr (.inl v0)), none, some (.inr (.inl v2)), none, some (.inl v4), some (.inr (.inl v5)), none, some (.inr (.inl v7)), none, some (.inl v9)] [] h = (if zw 128 ≤ zw v9 then zx zblk xs 64 45 [some (.inr (.inl v0)), none, some (.inr (.inl v2)), none, some (.inl v4), some (.inr (.inl v5))] [] h else (if zw (if zwl v7 < zwl 0 then -1 else if zwl v7 = zwl 0 then 0 else 1) = 0 then zx zblk xs 64 45 [some (.inr (.inl v0)), none, some (.inr (.inl v2)), none, some (.inl v4), some (.inr (.inl v5))] [] h else (if zwl v7 = 0 then none else zx zblk xs 64 9 [some (.inr (.inl v0)), none, some (.inr (.inl v2)), none, some (.inl v4), some (.inr (.inl v7)), none, some (.inr (.inl ((zwl v5).tmod (zwl v7)))), none, some (.inl (v9 + 1))] [] h))) := (zx_unfold zblk xs 64 9 _ rfl _ _ _).trans rfl
theorem e_64_45 (xs : List Int) (v0 : Int) (v2 : Int) (v4 : Int) (v5 : Int) (h : zH) : zx zblk xs 64 45 [some (.inr (.inl v0)), none, some (.inr (.inl v2)), none, some (.inl v4), some (.inr (.inl v5))] [] h = (if zw (if zwl v5 < zwl 0 then -1 else if zwl v5 = zwl 0 then 0 else 1) ≠ 0 then zx zblk xs 64 54 [some (.inr (.inl v0)), none, some (.inr (.inl v2)), none, some (.inl v4), some (.inr (.inl v5))] [] h else some (some (.inr (.inl 0)), h)) := (zx_unfold zblk xs 64 45 _ rfl _ _ _).trans rfl
theorem e_64_54 (xs : List Int) (v0 : Int) (v2 : Int) (v4 : Int) (v5 : Int) (h : zH) : zx zblk xs 64 54 [some (.inr (.inl v0)), none, some (.inr (.inl v2)), none, some (.inl v4), some (.inr (.inl v5))] [] h = (if zw v4 ≠ 0 then zx zblk xs 64 66 [none, none, some (.inr (.inl v2)), none, none, some (.inr (.inl v5))] [] h else (if zwl v5 = 0 then none else zx zblk xs 64 70 [] [.inr (.inl ((zwl v0).tdiv (zwl v5)))] h)) := (zx_unfold zblk xs 64 54 _ rfl _ _ _).trans rfl
theorem e_64_66 (xs : List Int) (v2 : Int) (v5 : Int) (h : zH) : zx zblk xs 64 66 [none, none, some (.inr (.inl v2)), none, none, some (.inr (.inl v5))] [] h = (if zwl v5 = 0 then none else zx zblk xs 64 70 [] [.inr (.inl ((zwl v2).tdiv (zwl v5)))] h) := (zx_unfold zblk xs 64 66 _ rfl _ _ _).trans rfl
theorem e_64_70 (xs : List Int) (s0 : Int) (h : zH) : zx zblk xs 64 70 [] [.inr (.inl s0)] h = some (some (.inr (.inl s0)), h) := (zx_unfold zblk xs 64 70 _ rfl _ _ _).trans rfl
/-- MindReaders.unlike(LMindReaders$Code;II)I -/
theorem e_65_0 (xs : List Int) (p : Nat) (v1 : Option Nat) (v2 : Int) (v3 : Int) (h : zH) : zx zblk xs 65 0 [some (.inr (.inr (some p))), some (.inr (.inr v1)), some (.inl v2), some (.inl v3)] [] h = zx zblk xs 65 6 [some (.inr (.inr (some p))), some (.inr (.inr v1)), some (.inl v2), some (.inl v3), some (.inl 0), some (.inl 0)] [] h := (zx_unfold zblk xs 65 0 _ rfl _ _ _).trans rfl
theorem e_65_6 (xs : List Int) (p : Nat) (v1 : Option Nat) (v2 : Int) (v3 : Int) (v4 : Int) (v5 : Int) (h : zH) : zx zblk xs 65 6 [some (.inr (.inr (some p))), some (.inr (.inr v1)), some (.inl v2), some (.inl v3), some (.inl v4), some (.inl v5)] [] h = (zck h v1 0 (zci (zx zblk xs 148 0 [some (.inr (.inr v1))] [] h) fun r2 h1 => (if zw r2 ≤ zw v5 then zx zblk xs 65 113 [none, none, none, none, some (.inl v4)] [] h1 else (if zw v3 ≤ zw v4 then zx zblk xs 65 113 [none, none, none, none, some (.inl v4)] [] h1 else (zgr h1 (some p) 6 0 fun f3 => (zck h1 v1 0 (zcr (zx zblk xs 149 0 [some (.inr (.inr v1)), some (.inl v5)] [] h1) fun r5 h4 => (zgr h4 (some p) 6 12 fun f6 => (zck h4 f6 4 (zcr (zx zblk xs 186 0 [some (.inr (.inr f6)), some (.inl v5)] [] h4) fun r8 h7 => (zck h7 f3 5 (zcv (zx zblk xs 198 0 [some (.inr (.inr f3)), some (.inr (.inr r5)), some (.inl v2), some (.inr (.inr r8))] [] h7) fun h9 => zx zblk xs 65 50 [some (.inr (.inr (some p))), some (.inr (.inr v1)), some (.inl v2), some (.inl v3), some (.inl v4), some (.inl v5), some (.inl 1), some (.inl 0)] [] h9)))))))))))) := (zx_unfold zblk xs 65 6 _ rfl _ _ _).trans rfl
theorem e_65_50 (xs : List Int) (p : Nat) (v1 : Option Nat) (v2 : Int) (v3 : Int) (v4 : Int) (v5 : Int) (v6 : Int) (v7 : Int) (h : zH) : zx zblk xs 65 50 [some (.inr (.inr (some p))), some (.inr (.inr v1)), some (.inl v2), some (.inl v3), some (.inl v4), some (.inl v5), some (.inl v6), some (.inl v7)] [] h = (if zw v5 ≤ zw v7 then zx zblk xs 65 99 [some (.inr (.inr (some p))), some (.inr (.inr v1)), some (.inl v2), some (.inl v3), some (.inl v4), some (.inl v5), some (.inl v6)] [] h else (if zw v6 = 0 then zx zblk xs 65 99 [some (.inr (.inr (some p))), some (.inr (.inr v1)), some (.inl v2), some (.inl v3), some (.inl v4), some (.inl v5), some (.inl v6)] [] h else (zgr h (some p) 6 12 fun f1 => (zck h f1 4 (zcr (zx zblk xs 186 0 [some (.inr (.inr f1)), some (.inl v7)] [] h) fun r3 h2 => (zgr h2 (some p) 6 12 fun f4 => (zck h2 f4 4 (zcr (zx zblk xs 186 0 [some (.inr (.inr f4)), some (.inl v5)] [] h2) fun r6 h5 => (zck h5 r3 3 (zci (zx zblk xs 178 0 [some (.inr (.inr r3)), some (.inr (.inr r6))] [] h5) fun r8 h7 => (if zw r8 ≠ 0 then zx zblk xs 65 90 [some (.inr (.inr (some p))), some (.inr (.inr v1)), some (.inl v2), some (.inl v3), some (.inl v4), some (.inl v5), none, some (.inl v7)] [] h7 else zx zblk xs 65 91 [some (.inr (.inr (some p))), some (.inr (.inr v1)), some (.inl v2), some (.inl v3), some (.inl v4), some (.inl v5), none, some (.inl v7)] [.inl 1] h7))))))))))) := (zx_unfold zblk xs 65 50 _ rfl _ _ _).trans rfl
theorem e_65_90 (xs : List Int) (p : Nat) (v1 : Option Nat) (v2 : Int) (v3 : Int) (v4 : Int) (v5 : Int) (v7 : Int) (h : zH) : zx zblk xs 65 90 [some (.inr (.inr (some p))), some (.inr (.inr v1)), some (.inl v2), some (.inl v3), some (.inl v4), some (.inl v5), none, some (.inl v7)] [] h = zx zblk xs 65 91 [some (.inr (.inr (some p))), some (.inr (.inr v1)), some (.inl v2), some (.inl v3), some (.inl v4), some (.inl v5), none, some (.inl v7)] [.inl 0] h := (zx_unfold zblk xs 65 90 _ rfl _ _ _).trans rfl
theorem e_65_91 (xs : List Int) (p : Nat) (v1 : Option Nat) (v2 : Int) (v3 : Int) (v4 : Int) (v5 : Int) (v7 : Int) (s0 : Int) (h : zH) : zx zblk xs 65 91 [some (.inr (.inr (some p))), some (.inr (.inr v1)), some (.inl v2), some (.inl v3), some (.inl v4), some (.inl v5), none, some (.inl v7)] [.inl s0] h = zx zblk xs 65 50 [some (.inr (.inr (some p))), some (.inr (.inr v1)), some (.inl v2), some (.inl v3), some (.inl v4), some (.inl v5), some (.inl s0), some (.inl (v7 + 1))] [] h := (zx_unfold zblk xs 65 91 _ rfl _ _ _).trans rfl
theorem e_65_99 (xs : List Int) (p : Nat) (v1 : Option Nat) (v2 : Int) (v3 : Int) (v4 : Int) (v5 : Int) (v6 : Int) (h : zH) : zx zblk xs 65 99 [some (.inr (.inr (some p))), some (.inr (.inr v1)), some (.inl v2), some (.inl v3), some (.inl v4), some (.inl v5), some (.inl v6)] [] h = (if zw v6 = 0 then zx zblk xs 65 107 [some (.inr (.inr (some p))), some (.inr (.inr v1)), some (.inl v2), some (.inl v3), some (.inl v4), some (.inl v5)] [] h else zx zblk xs 65 107 [some (.inr (.inr (some p))), some (.inr (.inr v1)), some (.inl v2), some (.inl v3), some (.inl (v4 + 1)), some (.inl v5)] [] h) := (zx_unfold zblk xs 65 99 _ rfl _ _ _).trans rfl
theorem e_65_107 (xs : List Int) (p : Nat) (v1 : Option Nat) (v2 : Int) (v3 : Int) (v4 : Int) (v5 : Int) (h : zH) : zx zblk xs 65 107 [some (.inr (.inr (some p))), some (.inr (.inr v1)), some (.inl v2), some (.inl v3), some (.inl v4), some (.inl v5)] [] h = zx zblk xs 65 6 [some (.inr (.inr (some p))), some (.inr (.inr v1)), some (.inl v2), some (.inl v3), some (.inl v4), some (.inl (v5 + 1))] [] h := (zx_unfold zblk xs 65 107 _ rfl _ _ _).trans rfl
theorem e_65_113 (xs : List Int) (v4 : Int) (h : zH) : zx zblk xs 65 113 [none, none, none, none, some (.inl v4)] [] h = some (some (.inl v4), h) := (zx_unfold zblk xs 65 113 _ rfl _ _ _).trans rfl
end
section
/-! ===== what each block of code does (printed by a program of mine; each by rfl) ===== -/
/-- MindReadersModel.in(JJJ)Z -/
theorem e_67_0 (xs : List Int) (v0 : Int) (v2 : Int) (v4 : Int) (h : zH) : zx zblk xs 67 0 [some (.inr (.inl v0)), none, some (.inr (.inl v2)), none, some (.inr (.inl v4))] [] h = (if zw (if zwl v0 < zwl v2 then -1 else if zwl v0 = zwl v2 then 0 else 1) < 0 then zx zblk xs 67 17 [] [] h else (if 0 < zw (if zwl v0 < zwl v4 then -1 else if zwl v0 = zwl v4 then 0 else 1) then zx zblk xs 67 17 [] [] h else zx zblk xs 67 18 [] [.inl 1] h)) := (zx_unfold zblk xs 67 0 _ rfl _ _ _).trans rfl
theorem e_67_17 (xs : List Int)  (h : zH) : zx zblk xs 67 17 [] [] h = zx zblk xs 67 18 [] [.inl 0] h := (zx_unfold zblk xs 67 17 _ rfl _ _ _).trans rfl
theorem e_67_18 (xs : List Int) (s0 : Int) (h : zH) : zx zblk xs 67 18 [] [.inl s0] h = (if s0 = 0 ∨ s0 = 1 then some (some (.inl s0), h) else none) := (zx_unfold zblk xs 67 18 _ rfl _ _ _).trans rfl
/-- MindReadersModel.letters(J)I -/
theorem e_68_0 (xs : List Int) (p : Nat) (v1 : Int) (h : zH) : zx zblk xs 68 0 [some (.inr (.inr (some p))), some (.inr (.inl v1))] [] h = zx zblk xs 68 11 [some (.inr (.inr (some p))), some (.inr (.inl v1)), none, some (.inl 0), some (.inl 1), some (.inr (.inl v1)), none, some (.inl 0)] [] h := (zx_unfold zblk xs 68 0 _ rfl _ _ _).trans rfl
theorem e_68_11 (xs : List Int) (p : Nat) (v1 : Int) (v3 : Int) (v4 : Int) (v5 : Int) (v7 : Int) (h : zH) : zx zblk xs 68 11 [some (.inr (.inr (some p))), some (.inr (.inl v1)), none, some (.inl v3), some (.inl v4), some (.inr (.inl v5)), none, some (.inl v7)] [] h = (if zw 8 ≤ zw v7 then zx zblk xs 68 83 [some (.inr (.inr (some p))), some (.inr (.inl v1)), none, some (.inl v3), some (.inl v4)] [] h else (if zw v4 = 0 then zx zblk xs 68 61 [some (.inr (.inr (some p))), some (.inr (.inl v1)), none, some (.inl v3), none, some (.inr (.inl (zushrl v5 8))), none, some (.inl v7), some (.inl (zandl v5 255))] [] h else (if zw 126 < zw (zandl v5 255) then zx zblk xs 68 61 [some (.inr (.inr (some p))), some (.inr (.inl v1)), none, some (.inl v3), none, some (.inr (.inl (zushrl v5 8))), none, some (.inl v7), some (.inl (zandl v5 255))] [] h else (if zw (zandl v5 255) = 0 then zx zblk xs 68 57 [some (.inr (.inr (some p))), some (.inr (.inl v1)), none, some (.inl v3), none, some (.inr (.inl (zushrl v5 8))), none, some (.inl v7), some (.inl (zandl v5 255))] [] h else (if zw v3 ≠ zw v7 then zx zblk xs 68 61 [some (.inr (.inr (some p))), some (.inr (.inl v1)), none, some (.inl v3), none, some (.inr (.inl (zushrl v5 8))), none, some (.inl v7), some (.inl (zandl v5 255))] [] h else zx zblk xs 68 57 [some (.inr (.inr (some p))), some (.inr (.inl v1)), none, some (.inl v3), none, some (.inr (.inl (zushrl v5 8))), none, some (.inl v7), some (.inl (zandl v5 255))] [] h))))) := (zx_unfold zblk xs 68 11 _ rfl _ _ _).trans rfl
theorem e_68_57 (xs : List Int) (p : Nat) (v1 : Int) (v3 : Int) (v5 : Int) (v7 : Int) (v8 : Int) (h : zH) : zx zblk xs 68 57 [some (.inr (.inr (some p))), some (.inr (.inl v1)), none, some (.inl v3), none, some (.inr (.inl v5)), none, some (.inl v7), some (.inl v8)] [] h = zx zblk xs 68 62 [some (.inr (.inr (some p))), some (.inr (.inl v1)), none, some (.inl v3), none, some (.inr (.inl v5)), none, some (.inl v7), some (.inl v8)] [.inl 1] h := (zx_unfold zblk xs 68 57 _ rfl _ _ _).trans rfl
theorem e_68_61 (xs : List Int) (p : Nat) (v1 : Int) (v3 : Int) (v5 : Int) (v7 : Int) (v8 : Int) (h : zH) : zx zblk xs 68 61 [some (.inr (.inr (some p))), some (.inr (.inl v1)), none, some (.inl v3), none, some (.inr (.inl v5)), none, some (.inl v7), some (.inl v8)] [] h = zx zblk xs 68 62 [some (.inr (.inr (some p))), some (.inr (.inl v1)), none, some (.inl v3), none, some (.inr (.inl v5)), none, some (.inl v7), some (.inl v8)] [.inl 0] h := (zx_unfold zblk xs 68 61 _ rfl _ _ _).trans rfl
theorem e_68_62 (xs : List Int) (p : Nat) (v1 : Int) (v3 : Int) (v5 : Int) (v7 : Int) (v8 : Int) (s0 : Int) (h : zH) : zx zblk xs 68 62 [some (.inr (.inr (some p))), some (.inr (.inl v1)), none, some (.inl v3), none, some (.inr (.inl v5)), none, some (.inl v7), some (.inl v8)] [.inl s0] h = (if zw v8 ≤ 0 then zx zblk xs 68 74 [some (.inr (.inr (some p))), some (.inr (.inl v1)), none, none, some (.inl s0), some (.inr (.inl v5)), none, some (.inl v7)] [.inl v3] h else zx zblk xs 68 75 [some (.inr (.inr (some p))), some (.inr (.inl v1)), none, none, some (.inl s0), some (.inr (.inl v5)), none, some (.inl v7)] [.inl 1, .inl v3] h) := (zx_unfold zblk xs 68 62 _ rfl _ _ _).trans rfl
theorem e_68_74 (xs : List Int) (p : Nat) (v1 : Int) (v4 : Int) (v5 : Int) (v7 : Int) (s0 : Int) (h : zH) : zx zblk xs 68 74 [some (.inr (.inr (some p))), some (.inr (.inl v1)), none, none, some (.inl v4), some (.inr (.inl v5)), none, some (.inl v7)] [.inl s0] h = zx zblk xs 68 75 [some (.inr (.inr (some p))), some (.inr (.inl v1)), none, none, some (.inl v4), some (.inr (.inl v5)), none, some (.inl v7)] [.inl 0, .inl s0] h := (zx_unfold zblk xs 68 74 _ rfl _ _ _).trans rfl
theorem e_68_75 (xs : List Int) (p : Nat) (v1 : Int) (v4 : Int) (v5 : Int) (v7 : Int) (s0 : Int) (s1 : Int) (h : zH) : zx zblk xs 68 75 [some (.inr (.inr (some p))), some (.inr (.inl v1)), none, none, some (.inl v4), some (.inr (.inl v5)), none, some (.inl v7)] [.inl s1, .inl s0] h = zx zblk xs 68 11 [some (.inr (.inr (some p))), some (.inr (.inl v1)), none, some (.inl (s0 + s1)), some (.inl v4), some (.inr (.inl v5)), none, some (.inl (v7 + 1))] [] h := (zx_unfold zblk xs 68 75 _ rfl _ _ _).trans rfl
theorem e_68_83 (xs : List Int) (p : Nat) (v1 : Int) (v3 : Int) (v4 : Int) (h : zH) : zx zblk xs 68 83 [some (.inr (.inr (some p))), some (.inr (.inl v1)), none, some (.inl v3), some (.inl v4)] [] h = (if zw v4 ≠ 0 then zx zblk xs 68 91 [some (.inr (.inr (some p))), some (.inr (.inl v1)), none, some (.inl v3)] [] h else some (some (.inl (-102)), h)) := (zx_unfold zblk xs 68 83 _ rfl _ _ _).trans rfl
theorem e_68_91 (xs : List Int) (p : Nat) (v1 : Int) (v3 : Int) (h : zH) : zx zblk xs 68 91 [some (.inr (.inr (some p))), some (.inr (.inl v1)), none, some (.inl v3)] [] h = (zgi h (some p) 7 1 fun f1 => (if zw (f1 + v3) ≤ zw 48 then zx zblk xs 68 105 [some (.inr (.inr (some p))), some (.inr (.inl v1)), none, some (.inl v3)] [] h else some (some (.inl (-104)), h))) := (zx_unfold zblk xs 68 91 _ rfl _ _ _).trans rfl
theorem e_68_105 (xs : List Int) (p : Nat) (v1 : Int) (v3 : Int) (h : zH) : zx zblk xs 68 105 [some (.inr (.inr (some p))), some (.inr (.inl v1)), none, some (.inl v3)] [] h = zx zblk xs 68 108 [some (.inr (.inr (some p))), some (.inr (.inl v1)), none, some (.inl v3), none, none, none, some (.inl 0)] [] h := (zx_unfold zblk xs 68 105 _ rfl _ _ _).trans rfl
theorem e_68_108 (xs : List Int) (p : Nat) (v1 : Int) (v3 : Int) (v7 : Int) (h : zH) : zx zblk xs 68 108 [some (.inr (.inr (some p))), some (.inr (.inl v1)), none, some (.inl v3), none, none, none, some (.inl v7)] [] h = (if zw v3 ≤ zw v7 then zx zblk xs 68 151 [some (.inr (.inr (some p)))] [] h else (zgr h (some p) 7 0 fun f1 => (zgi h (some p) 7 1 fun f2 => (zst h f1 100 f2 (.inl (zandl (zushrl v1 (8 * v7)) 255)) fun h3 => (zgi h3 (some p) 7 1 fun f4 => (zpf h3 (some p) 7 1 (.inl (f4 + 1)) fun h5 => zx zblk xs 68 108 [some (.inr (.inr (some p))), some (.inr (.inl v1)), none, some (.inl v3), none, none, none, some (.inl (v7 + 1))] [] h5)))))) := (zx_unfold zblk xs 68 108 _ rfl _ _ _).trans rfl
theorem e_68_151 (xs : List Int) (p : Nat) (h : zH) : zx zblk xs 68 151 [some (.inr (.inr (some p)))] [] h = (zgi h (some p) 7 1 fun f1 => some (some (.inl f1), h)) := (zx_unfold zblk xs 68 151 _ rfl _ _ _).trans rfl
/-- MindReadersModel.blank()I -/
theorem e_69_0 (xs : List Int) (p : Nat) (h : zH) : zx zblk xs 69 0 [some (.inr (.inr (some p)))] [] h = (zgi h (some p) 7 1 fun f1 => (zpf h (some p) 7 1 (.inl 0) fun h2 => some (some (.inl f1), h2))) := (zx_unfold zblk xs 69 0 _ rfl _ _ _).trans rfl
/-- MindReadersModel.go(I)Z -/
theorem e_70_0 (xs : List Int) (p : Nat) (v1 : Int) (h : zH) : zx zblk xs 70 0 [some (.inr (.inr (some p))), some (.inl v1)] [] h = (if zw v1 ≠ zw 44 then zx zblk xs 70 45 [some (.inr (.inr (some p))), some (.inl v1)] [] h else (zgi h (some p) 7 3 fun f1 => (if zw f1 ≤ 0 then zx zblk xs 70 26 [some (.inr (.inr (some p)))] [] h else (zgi h (some p) 7 2 fun f2 => (if zw 7 ≤ zw f2 then zx zblk xs 70 26 [some (.inr (.inr (some p)))] [] h else zx zblk xs 70 27 [some (.inr (.inr (some p)))] [.inl 1] h))))) := (zx_unfold zblk xs 70 0 _ rfl _ _ _).trans rfl
theorem e_70_26 (xs : List Int) (p : Nat) (h : zH) : zx zblk xs 70 26 [some (.inr (.inr (some p)))] [] h = zx zblk xs 70 27 [some (.inr (.inr (some p)))] [.inl 0] h := (zx_unfold zblk xs 70 26 _ rfl _ _ _).trans rfl
theorem e_70_27 (xs : List Int) (p : Nat) (s0 : Int) (h : zH) : zx zblk xs 70 27 [some (.inr (.inr (some p)))] [.inl s0] h = (zgi h (some p) 7 2 fun f1 => (zpf h (some p) 7 2 (.inl (f1 + 1)) fun h2 => (zpf h2 (some p) 7 3 (.inl 0) fun h3 => (if s0 = 0 ∨ s0 = 1 then some (some (.inl s0), h3) else none)))) := (zx_unfold zblk xs 70 27 _ rfl _ _ _).trans rfl
theorem e_70_45 (xs : List Int) (p : Nat) (v1 : Int) (h : zH) : zx zblk xs 70 45 [some (.inr (.inr (some p))), some (.inl v1)] [] h = (zci (zx zblk xs 67 0 [some (.inr (.inl (zw v1))), none, some (.inr (.inl 97)), none, some (.inr (.inl 104)), none] [] h) fun r2 h1 => (if zw r2 = 0 then zx zblk xs 70 71 [some (.inr (.inr (some p))), some (.inl v1)] [] h1 else (zgi h1 (some p) 7 3 fun f3 => (if zw 5 ≤ zw f3 then zx zblk xs 70 71 [some (.inr (.inr (some p))), some (.inl v1)] [] h1 else zx zblk xs 70 72 [some (.inr (.inr (some p))), some (.inl v1)] [.inl 1] h1)))) := (zx_unfold zblk xs 70 45 _ rfl _ _ _).trans rfl
theorem e_70_71 (xs : List Int) (p : Nat) (v1 : Int) (h : zH) : zx zblk xs 70 71 [some (.inr (.inr (some p))), some (.inl v1)] [] h = zx zblk xs 70 72 [some (.inr (.inr (some p))), some (.inl v1)] [.inl 0] h := (zx_unfold zblk xs 70 71 _ rfl _ _ _).trans rfl
theorem e_70_72 (xs : List Int) (p : Nat) (v1 : Int) (s0 : Int) (h : zH) : zx zblk xs 70 72 [some (.inr (.inr (some p))), some (.inl v1)] [.inl s0] h = (if zw s0 = 0 then zx zblk xs 70 124 [none, none, some (.inl s0)] [] h else (zgi h (some p) 7 3 fun f1 => (zpf h (some p) 7 3 (.inl (f1 + 1)) fun h2 => (zgr h2 (some p) 7 4 fun f3 => (zgi h2 (some p) 7 2 fun f4 => (zgi h2 (some p) 7 3 fun f5 => (zst h2 f3 100 (6 * f4) (.inl f5) fun h6 => (zgr h6 (some p) 7 4 fun f7 => (zgi h6 (some p) 7 2 fun f8 => (zgi h6 (some p) 7 3 fun f9 => (zst h6 f7 100 ((6 * f8) + f9) (.inl (v1 - 97)) fun h10 => zx zblk xs 70 124 [none, none, some (.inl s0)] [] h10))))))))))) := (zx_unfold zblk xs 70 72 _ rfl _ _ _).trans rfl
theorem e_70_124 (xs : List Int) (v2 : Int) (h : zH) : zx zblk xs 70 124 [none, none, some (.inl v2)] [] h = (if v2 = 0 ∨ v2 = 1 then some (some (.inl v2), h) else none) := (zx_unfold zblk xs 70 124 _ rfl _ _ _).trans rfl
/-- MindReadersModel.faultOf()I -/
theorem e_71_0 (xs : List Int) (p : Nat) (h : zH) : zx zblk xs 71 0 [some (.inr (.inr (some p)))] [] h = (zpf h (some p) 7 2 (.inl 0) fun h1 => (zpf h1 (some p) 7 3 (.inl 0) fun h2 => zx zblk xs 71 12 [some (.inr (.inr (some p))), some (.inl 0)] [] h2)) := (zx_unfold zblk xs 71 0 _ rfl _ _ _).trans rfl
theorem e_71_12 (xs : List Int) (p : Nat) (v1 : Int) (h : zH) : zx zblk xs 71 12 [some (.inr (.inr (some p))), some (.inl v1)] [] h = (zgi h (some p) 7 1 fun f1 => (if zw f1 ≤ zw v1 then zx zblk xs 71 39 [none, some (.inl v1)] [] h else (zgr h (some p) 7 0 fun f2 => (zai xs h f2 v1 fun a3 => (zck h (some p) 7 (zci (zx zblk xs 70 0 [some (.inr (.inr (some p))), some (.inl a3)] [] h) fun r5 h4 => (if zw r5 = 0 then zx zblk xs 71 39 [none, some (.inl v1)] [] h4 else zx zblk xs 71 12 [some (.inr (.inr (some p))), some (.inl (v1 + 1))] [] h4))))))) := (zx_unfold zblk xs 71 12 _ rfl _ _ _).trans rfl
theorem e_71_39 (xs : List Int) (v1 : Int) (h : zH) : zx zblk xs 71 39 [none, some (.inl v1)] [] h = some (some (.inl v1), h) := (zx_unfold zblk xs 71 39 _ rfl _ _ _).trans rfl
/-- MindReadersModel.fault()I -/
theorem e_72_0 (xs : List Int) (p : Nat) (h : zH) : zx zblk xs 72 0 [some (.inr (.inr (some p)))] [] h = (zck h (some p) 7 (zci (zx zblk xs 71 0 [some (.inr (.inr (some p)))] [] h) fun r2 h1 => some (some (.inl r2), h1))) := (zx_unfold zblk xs 72 0 _ rfl _ _ _).trans rfl
/-- MindReadersModel.code()I -/
theorem e_73_0 (xs : List Int) (p : Nat) (h : zH) : zx zblk xs 73 0 [some (.inr (.inr (some p)))] [] h = (zck h (some p) 7 (zci (zx zblk xs 71 0 [some (.inr (.inr (some p)))] [] h) fun r2 h1 => (zgi h1 (some p) 7 1 fun f3 => (if zw r2 < zw f3 then zx zblk xs 73 18 [] [] h1 else (zgi h1 (some p) 7 3 fun f4 => (if zw f4 ≠ 0 then zx zblk xs 73 21 [some (.inr (.inr (some p)))] [] h1 else zx zblk xs 73 18 [] [] h1)))))) := (zx_unfold zblk xs 73 0 _ rfl _ _ _).trans rfl
theorem e_73_18 (xs : List Int)  (h : zH) : zx zblk xs 73 18 [] [] h = some (some (.inl (-103)), h) := (zx_unfold zblk xs 73 18 _ rfl _ _ _).trans rfl
theorem e_73_21 (xs : List Int) (p : Nat) (h : zH) : zx zblk xs 73 21 [some (.inr (.inr (some p)))] [] h = (zgi h (some p) 7 5 fun f1 => (if zw f1 ≠ zw 4 then zx zblk xs 73 32 [some (.inr (.inr (some p)))] [] h else some (some (.inl (-104)), h))) := (zx_unfold zblk xs 73 21 _ rfl _ _ _).trans rfl
theorem e_73_32 (xs : List Int) (p : Nat) (h : zH) : zx zblk xs 73 32 [some (.inr (.inr (some p)))] [] h = (zgr h (some p) 7 6 fun f1 => (zgi h (some p) 7 5 fun f2 => (zgi h (some p) 7 2 fun f3 => (zst h f1 100 f2 (.inl (f3 + 1)) fun h4 => zx zblk xs 73 49 [some (.inr (.inr (some p))), some (.inl 0)] [] h4)))) := (zx_unfold zblk xs 73 32 _ rfl _ _ _).trans rfl
theorem e_73_49 (xs : List Int) (p : Nat) (v1 : Int) (h : zH) : zx zblk xs 73 49 [some (.inr (.inr (some p))), some (.inl v1)] [] h = (if zw 48 ≤ zw v1 then zx zblk xs 73 81 [some (.inr (.inr (some p)))] [] h else (zgr h (some p) 7 7 fun f1 => (zgi h (some p) 7 5 fun f2 => (zgr h (some p) 7 4 fun f3 => (zai xs h f3 v1 fun a4 => (zst h f1 100 ((48 * f2) + v1) (.inl a4) fun h5 => zx zblk xs 73 49 [some (.inr (.inr (some p))), some (.inl (v1 + 1))] [] h5)))))) := (zx_unfold zblk xs 73 49 _ rfl _ _ _).trans rfl
theorem e_73_81 (xs : List Int) (p : Nat) (h : zH) : zx zblk xs 73 81 [some (.inr (.inr (some p)))] [] h = (zgi h (some p) 7 5 fun f1 => (zpf h (some p) 7 5 (.inl (f1 + 1)) fun h2 => (zpf h2 (some p) 7 1 (.inl 0) fun h3 => (zgi h3 (some p) 7 5 fun f4 => some (some (.inl (f4 - 1)), h3))))) := (zx_unfold zblk xs 73 81 _ rfl _ _ _).trans rfl
/-- MindReadersModel.isCode(I)Z -/
theorem e_74_0 (xs : List Int) (p : Nat) (v1 : Int) (h : zH) : zx zblk xs 74 0 [some (.inr (.inr (some p))), some (.inl v1)] [] h = (zgi h (some p) 7 5 fun f1 => (zci (zx zblk xs 67 0 [some (.inr (.inl (zw v1))), none, some (.inr (.inl 0)), none, some (.inr (.inl (zw (f1 - 1)))), none] [] h) fun r3 h2 => (if r3 = 0 ∨ r3 = 1 then some (some (.inl r3), h2) else none))) := (zx_unfold zblk xs 74 0 _ rfl _ _ _).trans rfl
/-- MindReadersModel.signal(IIII)I -/
theorem e_75_0 (xs : List Int) (p : Nat) (v1 : Int) (v2 : Int) (v3 : Int) (v4 : Int) (h : zH) : zx zblk xs 75 0 [some (.inr (.inr (some p))), some (.inl v1), some (.inl v2), some (.inl v3), some (.inl v4)] [] h = (zci (zx zblk xs 67 0 [some (.inr (.inl (zw v1))), none, some (.inr (.inl 0)), none, some (.inr (.inl 4)), none] [] h) fun r2 h1 => (if zw r2 ≠ 0 then zx zblk xs 75 15 [some (.inr (.inr (some p))), some (.inl v1), some (.inl v2), some (.inl v3), some (.inl v4)] [] h1 else some (some (.inl (-102)), h1))) := (zx_unfold zblk xs 75 0 _ rfl _ _ _).trans rfl
theorem e_75_15 (xs : List Int) (p : Nat) (v1 : Int) (v2 : Int) (v3 : Int) (v4 : Int) (h : zH) : zx zblk xs 75 15 [some (.inr (.inr (some p))), some (.inl v1), some (.inl v2), some (.inl v3), some (.inl v4)] [] h = (if zw v1 ≠ zw 2 then zx zblk xs 75 56 [some (.inr (.inr (some p))), some (.inl v1), some (.inl v2), some (.inl v3), some (.inl v4)] [] h else (zgi h (some p) 7 8 fun f1 => (zci (zx zblk xs 67 0 [some (.inr (.inl (zw v2))), none, some (.inr (.inl 0)), none, some (.inr (.inl (zw (f1 - 1)))), none] [] h) fun r3 h2 => (if zw r3 = 0 then zx zblk xs 75 52 [some (.inr (.inr (some p))), some (.inl v1), some (.inl v2), some (.inl v3), some (.inl v4)] [] h2 else (zgr h2 (some p) 7 9 fun f4 => (zai xs h2 f4 (4 * v2) fun a5 => (if zw 2 ≤ zw a5 then zx zblk xs 75 52 [some (.inr (.inr (some p))), some (.inl v1), some (.inl v2), some (.inl v3), some (.inl v4)] [] h2 else zx zblk xs 75 66 [some (.inr (.inr (some p))), some (.inl v1), some (.inl v2), some (.inl v3), some (.inl v4)] [.inl 1] h2))))))) := (zx_unfold zblk xs 75 15 _ rfl _ _ _).trans rfl
theorem e_75_52 (xs : List Int) (p : Nat) (v1 : Int) (v2 : Int) (v3 : Int) (v4 : Int) (h : zH) : zx zblk xs 75 52 [some (.inr (.inr (some p))), some (.inl v1), some (.inl v2), some (.inl v3), some (.inl v4)] [] h = zx zblk xs 75 66 [some (.inr (.inr (some p))), some (.inl v1), some (.inl v2), some (.inl v3), some (.inl v4)] [.inl 0] h := (zx_unfold zblk xs 75 52 _ rfl _ _ _).trans rfl
theorem e_75_56 (xs : List Int) (p : Nat) (v1 : Int) (v2 : Int) (v3 : Int) (v4 : Int) (h : zH) : zx zblk xs 75 56 [some (.inr (.inr (some p))), some (.inl v1), some (.inl v2), some (.inl v3), some (.inl v4)] [] h = (if zw v2 ≠ zw (-1) then zx zblk xs 75 65 [some (.inr (.inr (some p))), some (.inl v1), some (.inl v2), some (.inl v3), some (.inl v4)] [] h else zx zblk xs 75 66 [some (.inr (.inr (some p))), some (.inl v1), some (.inl v2), some (.inl v3), some (.inl v4)] [.inl 1] h) := (zx_unfold zblk xs 75 56 _ rfl _ _ _).trans rfl
theorem e_75_65 (xs : List Int) (p : Nat) (v1 : Int) (v2 : Int) (v3 : Int) (v4 : Int) (h : zH) : zx zblk xs 75 65 [some (.inr (.inr (some p))), some (.inl v1), some (.inl v2), some (.inl v3), some (.inl v4)] [] h = zx zblk xs 75 66 [some (.inr (.inr (some p))), some (.inl v1), some (.inl v2), some (.inl v3), some (.inl v4)] [.inl 0] h := (zx_unfold zblk xs 75 65 _ rfl _ _ _).trans rfl
theorem e_75_66 (xs : List Int) (p : Nat) (v1 : Int) (v2 : Int) (v3 : Int) (v4 : Int) (s0 : Int) (h : zH) : zx zblk xs 75 66 [some (.inr (.inr (some p))), some (.inl v1), some (.inl v2), some (.inl v3), some (.inl v4)] [.inl s0] h = (if zw s0 ≠ 0 then zx zblk xs 75 76 [some (.inr (.inr (some p))), some (.inl v1), some (.inl v2), some (.inl v3), some (.inl v4)] [] h else some (some (.inl (-101)), h)) := (zx_unfold zblk xs 75 66 _ rfl _ _ _).trans rfl
theorem e_75_76 (xs : List Int) (p : Nat) (v1 : Int) (v2 : Int) (v3 : Int) (v4 : Int) (h : zH) : zx zblk xs 75 76 [some (.inr (.inr (some p))), some (.inl v1), some (.inl v2), some (.inl v3), some (.inl v4)] [] h = (zci (zx zblk xs 67 0 [some (.inr (.inl (zw v3))), none, some (.inr (.inl 1)), none, some (.inr (.inl 9)), none] [] h) fun r2 h1 => (if zw r2 = 0 then zx zblk xs 75 101 [] [] h1 else (zci (zx zblk xs 67 0 [some (.inr (.inl (zw v4))), none, some (.inr (.inl 0)), none, some (.inr (.inl 9)), none] [] h1) fun r4 h3 => (if zw r4 ≠ 0 then zx zblk xs 75 104 [some (.inr (.inr (some p))), some (.inl v1), some (.inl v2), some (.inl v3), some (.inl v4)] [] h3 else zx zblk xs 75 101 [] [] h3)))) := (zx_unfold zblk xs 75 76 _ rfl _ _ _).trans rfl
theorem e_75_101 (xs : List Int)  (h : zH) : zx zblk xs 75 101 [] [] h = some (some (.inl (-102)), h) := (zx_unfold zblk xs 75 101 _ rfl _ _ _).trans rfl
theorem e_75_104 (xs : List Int) (p : Nat) (v1 : Int) (v2 : Int) (v3 : Int) (v4 : Int) (h : zH) : zx zblk xs 75 104 [some (.inr (.inr (some p))), some (.inl v1), some (.inl v2), some (.inl v3), some (.inl v4)] [] h = (zgi h (some p) 7 8 fun f1 => (if zw f1 ≠ zw 8 then zx zblk xs 75 116 [some (.inr (.inr (some p))), some (.inl v1), some (.inl v2), some (.inl v3), some (.inl v4)] [] h else some (some (.inl (-104)), h))) := (zx_unfold zblk xs 75 104 _ rfl _ _ _).trans rfl
theorem e_75_116 (xs : List Int) (p : Nat) (v1 : Int) (v2 : Int) (v3 : Int) (v4 : Int) (h : zH) : zx zblk xs 75 116 [some (.inr (.inr (some p))), some (.inl v1), some (.inl v2), some (.inl v3), some (.inl v4)] [] h = (zgr h (some p) 7 9 fun f1 => (zgi h (some p) 7 8 fun f2 => (zst h f1 100 (4 * f2) (.inl v1) fun h3 => (zgr h3 (some p) 7 9 fun f4 => (zgi h3 (some p) 7 8 fun f5 => (zst h3 f4 100 ((4 * f5) + 1) (.inl v2) fun h6 => (zgr h6 (some p) 7 9 fun f7 => (zgi h6 (some p) 7 8 fun f8 => (zst h6 f7 100 ((4 * f8) + 2) (.inl v3) fun h9 => (zgr h9 (some p) 7 9 fun f10 => (zgi h9 (some p) 7 8 fun f11 => (zst h9 f10 100 ((4 * f11) + 3) (.inl v4) fun h12 => (zgi h12 (some p) 7 8 fun f13 => (zpf h12 (some p) 7 8 (.inl (f13 + 1)) fun h14 => (zgi h14 (some p) 7 8 fun f15 => some (some (.inl (f15 - 1)), h14)))))))))))))))) := (zx_unfold zblk xs 75 116 _ rfl _ _ _).trans rfl
/-- MindReadersModel.isSignal(I)Z -/
theorem e_76_0 (xs : List Int) (p : Nat) (v1 : Int) (h : zH) : zx zblk xs 76 0 [some (.inr (.inr (some p))), some (.inl v1)] [] h = (zgi h (some p) 7 8 fun f1 => (zci (zx zblk xs 67 0 [some (.inr (.inl (zw v1))), none, some (.inr (.inl 0)), none, some (.inr (.inl (zw (f1 - 1)))), none] [] h) fun r3 h2 => (if r3 = 0 ∨ r3 = 1 then some (some (.inl r3), h2) else none))) := (zx_unfold zblk xs 76 0 _ rfl _ _ _).trans rfl
/-- MindReadersModel.as(II)I -/
theorem e_77_0 (xs : List Int) (p : Nat) (v1 : Int) (v2 : Int) (h : zH) : zx zblk xs 77 0 [some (.inr (.inr (some p))), some (.inl v1), some (.inl v2)] [] h = (zck h (some p) 7 (zci (zx zblk xs 76 0 [some (.inr (.inr (some p))), some (.inl v1)] [] h) fun r2 h1 => (if zw r2 ≠ 0 then zx zblk xs 77 11 [some (.inr (.inr (some p))), some (.inl v1), some (.inl v2)] [] h1 else some (some (.inl (-101)), h1)))) := (zx_unfold zblk xs 77 0 _ rfl _ _ _).trans rfl
theorem e_77_11 (xs : List Int) (p : Nat) (v1 : Int) (v2 : Int) (h : zH) : zx zblk xs 77 11 [some (.inr (.inr (some p))), some (.inl v1), some (.inl v2)] [] h = (zci (zx zblk xs 67 0 [some (.inr (.inl (zw v2))), none, some (.inr (.inl 0)), none, some (.inr (.inl 4)), none] [] h) fun r2 h1 => (if zw r2 ≠ 0 then zx zblk xs 77 26 [some (.inr (.inr (some p))), some (.inl v1), some (.inl v2)] [] h1 else some (some (.inl (-102)), h1))) := (zx_unfold zblk xs 77 11 _ rfl _ _ _).trans rfl
theorem e_77_26 (xs : List Int) (p : Nat) (v1 : Int) (v2 : Int) (h : zH) : zx zblk xs 77 26 [some (.inr (.inr (some p))), some (.inl v1), some (.inl v2)] [] h = (zgr h (some p) 7 9 fun f1 => (zai xs h f1 (4 * v1) fun a2 => (if zw v2 = 0 then zx zblk xs 77 54 [none, some (.inl v1)] [] h else (if zw v2 = zw a2 then zx zblk xs 77 54 [none, some (.inl v1)] [] h else (if zw v2 ≠ zw 1 then zx zblk xs 77 58 [none, some (.inl v1)] [] h else (if zw a2 ≠ zw 2 then zx zblk xs 77 58 [none, some (.inl v1)] [] h else zx zblk xs 77 54 [none, some (.inl v1)] [] h)))))) := (zx_unfold zblk xs 77 26 _ rfl _ _ _).trans rfl
theorem e_77_54 (xs : List Int) (v1 : Int) (h : zH) : zx zblk xs 77 54 [none, some (.inl v1)] [] h = zx zblk xs 77 59 [none, some (.inl v1)] [.inl 1] h := (zx_unfold zblk xs 77 54 _ rfl _ _ _).trans rfl
theorem e_77_58 (xs : List Int) (v1 : Int) (h : zH) : zx zblk xs 77 58 [none, some (.inl v1)] [] h = zx zblk xs 77 59 [none, some (.inl v1)] [.inl 0] h := (zx_unfold zblk xs 77 58 _ rfl _ _ _).trans rfl
theorem e_77_59 (xs : List Int) (v1 : Int) (s0 : Int) (h : zH) : zx zblk xs 77 59 [none, some (.inl v1)] [.inl s0] h = (if zw s0 = 0 then zx zblk xs 77 70 [] [] h else zx zblk xs 77 71 [] [.inl v1] h) := (zx_unfold zblk xs 77 59 _ rfl _ _ _).trans rfl
theorem e_77_70 (xs : List Int)  (h : zH) : zx zblk xs 77 70 [] [] h = zx zblk xs 77 71 [] [.inl (-1)] h := (zx_unfold zblk xs 77 70 _ rfl _ _ _).trans rfl
theorem e_77_71 (xs : List Int) (s0 : Int) (h : zH) : zx zblk xs 77 71 [] [.inl s0] h = some (some (.inl s0), h) := (zx_unfold zblk xs 77 71 _ rfl _ _ _).trans rfl
/-- MindReadersModel.about(II)I -/
theorem e_78_0 (xs : List Int) (p : Nat) (v1 : Int) (v2 : Int) (h : zH) : zx zblk xs 78 0 [some (.inr (.inr (some p))), some (.inl v1), some (.inl v2)] [] h = (zck h (some p) 7 (zci (zx zblk xs 76 0 [some (.inr (.inr (some p))), some (.inl v1)] [] h) fun r2 h1 => (if zw r2 ≠ 0 then zx zblk xs 78 11 [some (.inr (.inr (some p))), some (.inl v1), some (.inl v2)] [] h1 else some (some (.inl (-101)), h1)))) := (zx_unfold zblk xs 78 0 _ rfl _ _ _).trans rfl
theorem e_78_11 (xs : List Int) (p : Nat) (v1 : Int) (v2 : Int) (h : zH) : zx zblk xs 78 11 [some (.inr (.inr (some p))), some (.inl v1), some (.inl v2)] [] h = (zci (zx zblk xs 67 0 [some (.inr (.inl (zw v2))), none, some (.inr (.inl 0)), none, some (.inr (.inl 3)), none] [] h) fun r2 h1 => (if zw r2 = 0 then zx zblk xs 78 36 [] [] h1 else (zgr h1 (some p) 7 9 fun f3 => (zai xs h1 f3 ((4 * v1) + v2) fun a4 => zx zblk xs 78 38 [] [.inl a4] h1)))) := (zx_unfold zblk xs 78 11 _ rfl _ _ _).trans rfl
theorem e_78_36 (xs : List Int)  (h : zH) : zx zblk xs 78 36 [] [] h = zx zblk xs 78 38 [] [.inl (-102)] h := (zx_unfold zblk xs 78 36 _ rfl _ _ _).trans rfl
theorem e_78_38 (xs : List Int) (s0 : Int) (h : zH) : zx zblk xs 78 38 [] [.inl s0] h = some (some (.inl s0), h) := (zx_unfold zblk xs 78 38 _ rfl _ _ _).trans rfl
/-- MindReadersModel.thing(I)I -/
theorem e_79_0 (xs : List Int) (p : Nat) (v1 : Int) (h : zH) : zx zblk xs 79 0 [some (.inr (.inr (some p))), some (.inl v1)] [] h = (zci (zx zblk xs 67 0 [some (.inr (.inl (zw v1))), none, some (.inr (.inl 1)), none, some (.inr (.inl 99)), none] [] h) fun r2 h1 => (if zw r2 ≠ 0 then zx zblk xs 79 15 [some (.inr (.inr (some p))), some (.inl v1)] [] h1 else some (some (.inl (-102)), h1))) := (zx_unfold zblk xs 79 0 _ rfl _ _ _).trans rfl
theorem e_79_15 (xs : List Int) (p : Nat) (v1 : Int) (h : zH) : zx zblk xs 79 15 [some (.inr (.inr (some p))), some (.inl v1)] [] h = (zgi h (some p) 7 10 fun f1 => (if zw f1 ≠ zw 8 then zx zblk xs 79 27 [some (.inr (.inr (some p))), some (.inl v1)] [] h else some (some (.inl (-104)), h))) := (zx_unfold zblk xs 79 15 _ rfl _ _ _).trans rfl
theorem e_79_27 (xs : List Int) (p : Nat) (v1 : Int) (h : zH) : zx zblk xs 79 27 [some (.inr (.inr (some p))), some (.inl v1)] [] h = (zgr h (some p) 7 11 fun f1 => (zgi h (some p) 7 10 fun f2 => (zst h f1 100 f2 (.inl v1) fun h3 => (zgi h3 (some p) 7 10 fun f4 => (zpf h3 (some p) 7 10 (.inl (f4 + 1)) fun h5 => (zgi h5 (some p) 7 10 fun f6 => some (some (.inl (f6 - 1)), h5))))))) := (zx_unfold zblk xs 79 27 _ rfl _ _ _).trans rfl
/-- MindReadersModel.isThing(I)Z -/
theorem e_80_0 (xs : List Int) (p : Nat) (v1 : Int) (h : zH) : zx zblk xs 80 0 [some (.inr (.inr (some p))), some (.inl v1)] [] h = (zgi h (some p) 7 10 fun f1 => (zci (zx zblk xs 67 0 [some (.inr (.inl (zw v1))), none, some (.inr (.inl 0)), none, some (.inr (.inl (zw (f1 - 1)))), none] [] h) fun r3 h2 => (if r3 = 0 ∨ r3 = 1 then some (some (.inl r3), h2) else none))) := (zx_unfold zblk xs 80 0 _ rfl _ _ _).trans rfl
/-- MindReadersModel.weigh(II)I -/
theorem e_81_0 (xs : List Int) (p : Nat) (v1 : Int) (v2 : Int) (h : zH) : zx zblk xs 81 0 [some (.inr (.inr (some p))), some (.inl v1), some (.inl v2)] [] h = (zck h (some p) 7 (zci (zx zblk xs 80 0 [some (.inr (.inr (some p))), some (.inl v1)] [] h) fun r2 h1 => (if zw r2 ≠ 0 then zx zblk xs 81 11 [some (.inr (.inr (some p))), some (.inl v1), some (.inl v2)] [] h1 else some (some (.inl (-101)), h1)))) := (zx_unfold zblk xs 81 0 _ rfl _ _ _).trans rfl
theorem e_81_11 (xs : List Int) (p : Nat) (v1 : Int) (v2 : Int) (h : zH) : zx zblk xs 81 11 [some (.inr (.inr (some p))), some (.inl v1), some (.inl v2)] [] h = (zci (zx zblk xs 67 0 [some (.inr (.inl (zw v2))), none, some (.inr (.inl 1)), none, some (.inr (.inl 99)), none] [] h) fun r2 h1 => (if zw r2 ≠ 0 then zx zblk xs 81 26 [some (.inr (.inr (some p))), some (.inl v1), some (.inl v2)] [] h1 else some (some (.inl (-102)), h1))) := (zx_unfold zblk xs 81 11 _ rfl _ _ _).trans rfl
theorem e_81_26 (xs : List Int) (p : Nat) (v1 : Int) (v2 : Int) (h : zH) : zx zblk xs 81 26 [some (.inr (.inr (some p))), some (.inl v1), some (.inl v2)] [] h = (zgr h (some p) 7 11 fun f1 => (zai xs h f1 v1 fun a2 => (zgr h (some p) 7 11 fun f3 => (zst h f3 100 v1 (.inl v2) fun h4 => some (some (.inl a2), h4))))) := (zx_unfold zblk xs 81 26 _ rfl _ _ _).trans rfl
/-- MindReadersModel.kindOf(I)I -/
theorem e_82_0 (xs : List Int) (p : Nat) (v1 : Int) (h : zH) : zx zblk xs 82 0 [some (.inr (.inr (some p))), some (.inl v1)] [] h = (zck h (some p) 7 (zci (zx zblk xs 76 0 [some (.inr (.inr (some p))), some (.inl v1)] [] h) fun r2 h1 => (if zw r2 = 0 then zx zblk xs 82 19 [] [] h1 else (zgr h1 (some p) 7 9 fun f3 => (zai xs h1 f3 (4 * v1) fun a4 => zx zblk xs 82 20 [] [.inl a4] h1))))) := (zx_unfold zblk xs 82 0 _ rfl _ _ _).trans rfl
theorem e_82_19 (xs : List Int)  (h : zH) : zx zblk xs 82 19 [] [] h = zx zblk xs 82 20 [] [.inl 0] h := (zx_unfold zblk xs 82 19 _ rfl _ _ _).trans rfl
theorem e_82_20 (xs : List Int) (s0 : Int) (h : zH) : zx zblk xs 82 20 [] [.inl s0] h = some (some (.inl s0), h) := (zx_unfold zblk xs 82 20 _ rfl _ _ _).trans rfl
/-- MindReadersModel.secondsOf(I)I -/
theorem e_83_0 (xs : List Int) (p : Nat) (v1 : Int) (h : zH) : zx zblk xs 83 0 [some (.inr (.inr (some p))), some (.inl v1)] [] h = (zck h (some p) 7 (zci (zx zblk xs 76 0 [some (.inr (.inr (some p))), some (.inl v1)] [] h) fun r2 h1 => (if zw r2 = 0 then zx zblk xs 83 21 [] [] h1 else (zgr h1 (some p) 7 9 fun f3 => (zai xs h1 f3 ((4 * v1) + 2) fun a4 => zx zblk xs 83 22 [] [.inl a4] h1))))) := (zx_unfold zblk xs 83 0 _ rfl _ _ _).trans rfl
theorem e_83_21 (xs : List Int)  (h : zH) : zx zblk xs 83 21 [] [] h = zx zblk xs 83 22 [] [.inl 1] h := (zx_unfold zblk xs 83 21 _ rfl _ _ _).trans rfl
theorem e_83_22 (xs : List Int) (s0 : Int) (h : zH) : zx zblk xs 83 22 [] [.inl s0] h = some (some (.inl s0), h) := (zx_unfold zblk xs 83 22 _ rfl _ _ _).trans rfl
/-- MindReadersModel.oddOf(I)I -/
theorem e_84_0 (xs : List Int) (p : Nat) (v1 : Int) (h : zH) : zx zblk xs 84 0 [some (.inr (.inr (some p))), some (.inl v1)] [] h = (zck h (some p) 7 (zci (zx zblk xs 76 0 [some (.inr (.inr (some p))), some (.inl v1)] [] h) fun r2 h1 => (if zw r2 = 0 then zx zblk xs 84 21 [] [] h1 else (zgr h1 (some p) 7 9 fun f3 => (zai xs h1 f3 ((4 * v1) + 3) fun a4 => zx zblk xs 84 22 [] [.inl a4] h1))))) := (zx_unfold zblk xs 84 0 _ rfl _ _ _).trans rfl
theorem e_84_21 (xs : List Int)  (h : zH) : zx zblk xs 84 21 [] [] h = zx zblk xs 84 22 [] [.inl 0] h := (zx_unfold zblk xs 84 21 _ rfl _ _ _).trans rfl
theorem e_84_22 (xs : List Int) (s0 : Int) (h : zH) : zx zblk xs 84 22 [] [.inl s0] h = some (some (.inl s0), h) := (zx_unfold zblk xs 84 22 _ rfl _ _ _).trans rfl
/-- MindReadersModel.stand(I)V -/
theorem e_85_0 (xs : List Int) (p : Nat) (v1 : Int) (h : zH) : zx zblk xs 85 0 [some (.inr (.inr (some p))), some (.inl v1)] [] h = (zck h (some p) 7 (zci (zx zblk xs 82 0 [some (.inr (.inr (some p))), some (.inl v1)] [] h) fun r2 h1 => (if zw 2 ≤ zw r2 then zx zblk xs 85 34 [some (.inr (.inr (some p))), some (.inl v1), some (.inl r2)] [] h1 else (zgr h1 (some p) 7 12 fun f3 => (zgi h1 (some p) 7 13 fun f4 => (zst h1 f3 100 f4 (.inl v1) fun h5 => (zgi h5 (some p) 7 13 fun f6 => (zpf h5 (some p) 7 13 (.inl (f6 + 1)) fun h7 => zx zblk xs 85 114 [] [] h7)))))))) := (zx_unfold zblk xs 85 0 _ rfl _ _ _).trans rfl
theorem e_85_34 (xs : List Int) (p : Nat) (v1 : Int) (v2 : Int) (h : zH) : zx zblk xs 85 34 [some (.inr (.inr (some p))), some (.inl v1), some (.inl v2)] [] h = (if zw v2 ≠ zw 2 then zx zblk xs 85 92 [some (.inr (.inr (some p))), none, some (.inl v2)] [] h else (zgr h (some p) 7 12 fun f1 => (zgi h (some p) 7 13 fun f2 => (zgr h (some p) 7 9 fun f3 => (zai xs h f3 ((4 * v1) + 1) fun a4 => (zst h f1 100 f2 (.inl a4) fun h5 => (zgr h5 (some p) 7 12 fun f6 => (zgi h5 (some p) 7 13 fun f7 => (zgr h5 (some p) 7 9 fun f8 => (zai xs h5 f8 ((4 * v1) + 1) fun a9 => (zst h5 f6 100 (f7 + 1) (.inl a9) fun h10 => (zgi h10 (some p) 7 13 fun f11 => (zpf h10 (some p) 7 13 (.inl (f11 + 2)) fun h12 => zx zblk xs 85 114 [] [] h12))))))))))))) := (zx_unfold zblk xs 85 34 _ rfl _ _ _).trans rfl
theorem e_85_92 (xs : List Int) (p : Nat) (v2 : Int) (h : zH) : zx zblk xs 85 92 [some (.inr (.inr (some p))), none, some (.inl v2)] [] h = (if zw v2 ≠ zw 4 then zx zblk xs 85 114 [] [] h else (zgi h (some p) 7 13 fun f1 => (if zw f1 ≤ 0 then zx zblk xs 85 114 [] [] h else (zgi h (some p) 7 13 fun f2 => (zpf h (some p) 7 13 (.inl (f2 - 1)) fun h3 => zx zblk xs 85 114 [] [] h3))))) := (zx_unfold zblk xs 85 92 _ rfl _ _ _).trans rfl
theorem e_85_114 (xs : List Int)  (h : zH) : zx zblk xs 85 114 [] [] h = some (none, h) := (zx_unfold zblk xs 85 114 _ rfl _ _ _).trans rfl
/-- MindReadersModel.layPlain(III)V -/
theorem e_86_0 (xs : List Int) (p : Nat) (v1 : Int) (v2 : Int) (v3 : Int) (h : zH) : zx zblk xs 86 0 [some (.inr (.inr (some p))), some (.inl v1), some (.inl v2), some (.inl v3)] [] h = (zpf h (some p) 7 13 (.inl 0) fun h1 => zx zblk xs 86 19 [some (.inr (.inr (some p))), none, none, some (.inl v3), some (.inl ((48 * v1) + (6 * v2))), some (.inl 1)] [] h1) := (zx_unfold zblk xs 86 0 _ rfl _ _ _).trans rfl
theorem e_86_19 (xs : List Int) (p : Nat) (v3 : Int) (v4 : Int) (v5 : Int) (h : zH) : zx zblk xs 86 19 [some (.inr (.inr (some p))), none, none, some (.inl v3), some (.inl v4), some (.inl v5)] [] h = (zgr h (some p) 7 7 fun f1 => (zai xs h f1 v4 fun a2 => (if zw a2 < zw v5 then zx zblk xs 86 68 [] [] h else (zgr h (some p) 7 7 fun f3 => (zai xs h f3 (v4 + v5) fun a4 => (if zw (zand (zshr v3 a4) 1) ≠ 0 then zx zblk xs 86 62 [some (.inr (.inr (some p))), none, none, some (.inl v3), some (.inl v4), some (.inl v5)] [] h else (zgr h (some p) 7 7 fun f5 => (zai xs h f5 (v4 + v5) fun a6 => (zck h (some p) 7 (zcv (zx zblk xs 85 0 [some (.inr (.inr (some p))), some (.inl a6)] [] h) fun h7 => zx zblk xs 86 62 [some (.inr (.inr (some p))), none, none, some (.inl v3), some (.inl v4), some (.inl v5)] [] h7)))))))))) := (zx_unfold zblk xs 86 19 _ rfl _ _ _).trans rfl
theorem e_86_62 (xs : List Int) (p : Nat) (v3 : Int) (v4 : Int) (v5 : Int) (h : zH) : zx zblk xs 86 62 [some (.inr (.inr (some p))), none, none, some (.inl v3), some (.inl v4), some (.inl v5)] [] h = zx zblk xs 86 19 [some (.inr (.inr (some p))), none, none, some (.inl v3), some (.inl v4), some (.inl (v5 + 1))] [] h := (zx_unfold zblk xs 86 62 _ rfl _ _ _).trans rfl
theorem e_86_68 (xs : List Int)  (h : zH) : zx zblk xs 86 68 [] [] h = some (none, h) := (zx_unfold zblk xs 86 68 _ rfl _ _ _).trans rfl
/-- MindReadersModel.layAll(II)V -/
theorem e_87_0 (xs : List Int) (p : Nat) (v1 : Int) (v2 : Int) (h : zH) : zx zblk xs 87 0 [some (.inr (.inr (some p))), some (.inl v1), some (.inl v2)] [] h = zx zblk xs 87 2 [some (.inr (.inr (some p))), some (.inl v1), some (.inl v2), some (.inl 0)] [] h := (zx_unfold zblk xs 87 0 _ rfl _ _ _).trans rfl
theorem e_87_2 (xs : List Int) (p : Nat) (v1 : Int) (v2 : Int) (v3 : Int) (h : zH) : zx zblk xs 87 2 [some (.inr (.inr (some p))), some (.inl v1), some (.inl v2), some (.inl v3)] [] h = (zgr h (some p) 7 6 fun f1 => (zai xs h f1 v1 fun a2 => (if zw a2 ≤ zw v3 then zx zblk xs 87 77 [] [] h else (zck h (some p) 7 (zcv (zx zblk xs 86 0 [some (.inr (.inr (some p))), some (.inl v1), some (.inl v3), some (.inl v2)] [] h) fun h3 => (zgr h3 (some p) 7 14 fun f4 => (zgi h3 (some p) 7 13 fun f5 => (zst h3 f4 100 (11 * v3) (.inl f5) fun h6 => zx zblk xs 87 35 [some (.inr (.inr (some p))), some (.inl v1), some (.inl v2), some (.inl v3), some (.inl 0)] [] h6)))))))) := (zx_unfold zblk xs 87 2 _ rfl _ _ _).trans rfl
theorem e_87_35 (xs : List Int) (p : Nat) (v1 : Int) (v2 : Int) (v3 : Int) (v4 : Int) (h : zH) : zx zblk xs 87 35 [some (.inr (.inr (some p))), some (.inl v1), some (.inl v2), some (.inl v3), some (.inl v4)] [] h = (zgi h (some p) 7 13 fun f1 => (if zw f1 ≤ zw v4 then zx zblk xs 87 71 [some (.inr (.inr (some p))), some (.inl v1), some (.inl v2), some (.inl v3)] [] h else (zgr h (some p) 7 14 fun f2 => (zgr h (some p) 7 12 fun f3 => (zai xs h f3 v4 fun a4 => (zst h f2 100 (((11 * v3) + 1) + v4) (.inl a4) fun h5 => zx zblk xs 87 35 [some (.inr (.inr (some p))), some (.inl v1), some (.inl v2), some (.inl v3), some (.inl (v4 + 1))] [] h5)))))) := (zx_unfold zblk xs 87 35 _ rfl _ _ _).trans rfl
theorem e_87_71 (xs : List Int) (p : Nat) (v1 : Int) (v2 : Int) (v3 : Int) (h : zH) : zx zblk xs 87 71 [some (.inr (.inr (some p))), some (.inl v1), some (.inl v2), some (.inl v3)] [] h = zx zblk xs 87 2 [some (.inr (.inr (some p))), some (.inl v1), some (.inl v2), some (.inl (v3 + 1))] [] h := (zx_unfold zblk xs 87 71 _ rfl _ _ _).trans rfl
theorem e_87_77 (xs : List Int)  (h : zH) : zx zblk xs 87 77 [] [] h = some (none, h) := (zx_unfold zblk xs 87 77 _ rfl _ _ _).trans rfl
/-- MindReadersModel.longOf(II)I -/
theorem e_88_0 (xs : List Int) (p : Nat) (v1 : Int) (v2 : Int) (h : zH) : zx zblk xs 88 0 [some (.inr (.inr (some p))), some (.inl v1), some (.inl v2)] [] h = zx zblk xs 88 16 [some (.inr (.inr (some p))), none, none, some (.inl ((48 * v1) + (6 * v2))), some (.inl 0), some (.inl 1)] [] h := (zx_unfold zblk xs 88 0 _ rfl _ _ _).trans rfl
theorem e_88_16 (xs : List Int) (p : Nat) (v3 : Int) (v4 : Int) (v5 : Int) (h : zH) : zx zblk xs 88 16 [some (.inr (.inr (some p))), none, none, some (.inl v3), some (.inl v4), some (.inl v5)] [] h = (zgr h (some p) 7 7 fun f1 => (zai xs h f1 v3 fun a2 => (if zw a2 < zw v5 then zx zblk xs 88 51 [none, none, none, none, some (.inl v4)] [] h else (zgr h (some p) 7 7 fun f3 => (zai xs h f3 (v3 + v5) fun a4 => (zck h (some p) 7 (zci (zx zblk xs 83 0 [some (.inr (.inr (some p))), some (.inl a4)] [] h) fun r6 h5 => zx zblk xs 88 16 [some (.inr (.inr (some p))), none, none, some (.inl v3), some (.inl (v4 + r6)), some (.inl (v5 + 1))] [] h5))))))) := (zx_unfold zblk xs 88 16 _ rfl _ _ _).trans rfl
theorem e_88_51 (xs : List Int) (v4 : Int) (h : zH) : zx zblk xs 88 51 [none, none, none, none, some (.inl v4)] [] h = some (some (.inl v4), h) := (zx_unfold zblk xs 88 51 _ rfl _ _ _).trans rfl
/-- MindReadersModel.speechOf(III)I -/
theorem e_89_0 (xs : List Int) (p : Nat) (v1 : Int) (v2 : Int) (v3 : Int) (h : zH) : zx zblk xs 89 0 [some (.inr (.inr (some p))), some (.inl v1), some (.inl v2), some (.inl v3)] [] h = (zci (zx zblk xs 67 0 [some (.inr (.inl (zw v3))), none, some (.inr (.inl 0)), none, some (.inr (.inl 5)), none] [] h) fun r2 h1 => (if zw r2 = 0 then zx zblk xs 89 48 [some (.inr (.inr (some p))), some (.inl v1), some (.inl v2), some (.inl v3)] [] h1 else (zgr h1 (some p) 7 7 fun f3 => (zai xs h1 f3 ((48 * v1) + (6 * v2)) fun a4 => (if zw a4 < zw v3 then zx zblk xs 89 46 [] [] h1 else (zgr h1 (some p) 7 7 fun f5 => (zai xs h1 f5 (((48 * v1) + (6 * v2)) + v3) fun a6 => zx zblk xs 89 47 [] [.inl a6] h1))))))) := (zx_unfold zblk xs 89 0 _ rfl _ _ _).trans rfl
theorem e_89_46 (xs : List Int)  (h : zH) : zx zblk xs 89 46 [] [] h = zx zblk xs 89 47 [] [.inl (-1)] h := (zx_unfold zblk xs 89 46 _ rfl _ _ _).trans rfl
theorem e_89_47 (xs : List Int) (s0 : Int) (h : zH) : zx zblk xs 89 47 [] [.inl s0] h = some (some (.inl s0), h) := (zx_unfold zblk xs 89 47 _ rfl _ _ _).trans rfl
theorem e_89_48 (xs : List Int) (p : Nat) (v1 : Int) (v2 : Int) (v3 : Int) (h : zH) : zx zblk xs 89 48 [some (.inr (.inr (some p))), some (.inl v1), some (.inl v2), some (.inl v3)] [] h = (zck h (some p) 7 (zcv (zx zblk xs 86 0 [some (.inr (.inr (some p))), some (.inl v1), some (.inl v2), some (.inl 0)] [] h) fun h1 => (zci (zx zblk xs 67 0 [some (.inr (.inl (zw v3))), none, some (.inr (.inl 11)), none, some (.inr (.inl 20)), none] [] h1) fun r3 h2 => (if zw r3 = 0 then zx zblk xs 89 94 [some (.inr (.inr (some p))), some (.inl v1), some (.inl v2), some (.inl v3)] [] h2 else (zgi h2 (some p) 7 13 fun f4 => (if zw f4 ≤ zw (v3 - 11) then zx zblk xs 89 92 [] [] h2 else (zgr h2 (some p) 7 12 fun f5 => (zai xs h2 f5 (v3 - 11) fun a6 => zx zblk xs 89 93 [] [.inl a6] h2)))))))) := (zx_unfold zblk xs 89 48 _ rfl _ _ _).trans rfl
theorem e_89_92 (xs : List Int)  (h : zH) : zx zblk xs 89 92 [] [] h = zx zblk xs 89 93 [] [.inl (-1)] h := (zx_unfold zblk xs 89 92 _ rfl _ _ _).trans rfl
theorem e_89_93 (xs : List Int) (s0 : Int) (h : zH) : zx zblk xs 89 93 [] [.inl s0] h = some (some (.inl s0), h) := (zx_unfold zblk xs 89 93 _ rfl _ _ _).trans rfl
theorem e_89_94 (xs : List Int) (p : Nat) (v1 : Int) (v2 : Int) (v3 : Int) (h : zH) : zx zblk xs 89 94 [some (.inr (.inr (some p))), some (.inl v1), some (.inl v2), some (.inl v3)] [] h = (if zw v3 ≠ zw 10 then zx zblk xs 89 107 [some (.inr (.inr (some p))), some (.inl v1), some (.inl v2), some (.inl v3)] [] h else (zgi h (some p) 7 13 fun f1 => zx zblk xs 89 124 [] [.inl f1] h)) := (zx_unfold zblk xs 89 94 _ rfl _ _ _).trans rfl
theorem e_89_107 (xs : List Int) (p : Nat) (v1 : Int) (v2 : Int) (v3 : Int) (h : zH) : zx zblk xs 89 107 [some (.inr (.inr (some p))), some (.inl v1), some (.inl v2), some (.inl v3)] [] h = (if zw v3 ≠ zw 30 then zx zblk xs 89 122 [] [] h else (zck h (some p) 7 (zci (zx zblk xs 88 0 [some (.inr (.inr (some p))), some (.inl v1), some (.inl v2)] [] h) fun r2 h1 => zx zblk xs 89 124 [] [.inl r2] h1))) := (zx_unfold zblk xs 89 107 _ rfl _ _ _).trans rfl
theorem e_89_122 (xs : List Int)  (h : zH) : zx zblk xs 89 122 [] [] h = zx zblk xs 89 124 [] [.inl (-102)] h := (zx_unfold zblk xs 89 122 _ rfl _ _ _).trans rfl
theorem e_89_124 (xs : List Int) (s0 : Int) (h : zH) : zx zblk xs 89 124 [] [.inl s0] h = some (some (.inl s0), h) := (zx_unfold zblk xs 89 124 _ rfl _ _ _).trans rfl
/-- MindReadersModel.speech(III)I -/
theorem e_90_0 (xs : List Int) (p : Nat) (v1 : Int) (v2 : Int) (v3 : Int) (h : zH) : zx zblk xs 90 0 [some (.inr (.inr (some p))), some (.inl v1), some (.inl v2), some (.inl v3)] [] h = (zck h (some p) 7 (zci (zx zblk xs 74 0 [some (.inr (.inr (some p))), some (.inl v1)] [] h) fun r2 h1 => (if zw r2 = 0 then zx zblk xs 90 26 [] [] h1 else (zgr h1 (some p) 7 6 fun f3 => (zai xs h1 f3 v1 fun a4 => (zci (zx zblk xs 67 0 [some (.inr (.inl (zw v2))), none, some (.inr (.inl 0)), none, some (.inr (.inl (zw (a4 - 1)))), none] [] h1) fun r6 h5 => (if zw r6 ≠ 0 then zx zblk xs 90 29 [some (.inr (.inr (some p))), some (.inl v1), some (.inl v2), some (.inl v3)] [] h5 else zx zblk xs 90 26 [] [] h5))))))) := (zx_unfold zblk xs 90 0 _ rfl _ _ _).trans rfl
theorem e_90_26 (xs : List Int)  (h : zH) : zx zblk xs 90 26 [] [] h = some (some (.inl (-101)), h) := (zx_unfold zblk xs 90 26 _ rfl _ _ _).trans rfl
theorem e_90_29 (xs : List Int) (p : Nat) (v1 : Int) (v2 : Int) (v3 : Int) (h : zH) : zx zblk xs 90 29 [some (.inr (.inr (some p))), some (.inl v1), some (.inl v2), some (.inl v3)] [] h = (zck h (some p) 7 (zci (zx zblk xs 89 0 [some (.inr (.inr (some p))), some (.inl v1), some (.inl v2), some (.inl v3)] [] h) fun r2 h1 => some (some (.inl r2), h1))) := (zx_unfold zblk xs 90 29 _ rfl _ _ _).trans rfl
/-- MindReadersModel.isStart(III)Z -/
theorem e_91_0 (xs : List Int) (p : Nat) (v1 : Int) (v2 : Int) (v3 : Int) (h : zH) : zx zblk xs 91 0 [some (.inr (.inr (some p))), some (.inl v1), some (.inl v2), some (.inl v3)] [] h = (zgr h (some p) 7 14 fun f1 => (zai xs h f1 (11 * v1) fun a2 => (if zw a2 < zw v3 then zx zblk xs 91 30 [some (.inr (.inr (some p))), some (.inl v1), some (.inl v2), some (.inl v3)] [] h else (zgr h (some p) 7 14 fun f3 => (zai xs h f3 (11 * v2) fun a4 => (if zw a4 < zw v3 then zx zblk xs 91 30 [some (.inr (.inr (some p))), some (.inl v1), some (.inl v2), some (.inl v3)] [] h else zx zblk xs 91 31 [some (.inr (.inr (some p))), some (.inl v1), some (.inl v2), some (.inl v3)] [.inl 1] h)))))) := (zx_unfold zblk xs 91 0 _ rfl _ _ _).trans rfl
theorem e_91_30 (xs : List Int) (p : Nat) (v1 : Int) (v2 : Int) (v3 : Int) (h : zH) : zx zblk xs 91 30 [some (.inr (.inr (some p))), some (.inl v1), some (.inl v2), some (.inl v3)] [] h = zx zblk xs 91 31 [some (.inr (.inr (some p))), some (.inl v1), some (.inl v2), some (.inl v3)] [.inl 0] h := (zx_unfold zblk xs 91 30 _ rfl _ _ _).trans rfl
theorem e_91_31 (xs : List Int) (p : Nat) (v1 : Int) (v2 : Int) (v3 : Int) (s0 : Int) (h : zH) : zx zblk xs 91 31 [some (.inr (.inr (some p))), some (.inl v1), some (.inl v2), some (.inl v3)] [.inl s0] h = zx zblk xs 91 36 [some (.inr (.inr (some p))), some (.inl v1), some (.inl v2), some (.inl v3), some (.inl s0), some (.inl 0)] [] h := (zx_unfold zblk xs 91 31 _ rfl _ _ _).trans rfl
theorem e_91_36 (xs : List Int) (p : Nat) (v1 : Int) (v2 : Int) (v3 : Int) (v4 : Int) (v5 : Int) (h : zH) : zx zblk xs 91 36 [some (.inr (.inr (some p))), some (.inl v1), some (.inl v2), some (.inl v3), some (.inl v4), some (.inl v5)] [] h = (if zw v3 ≤ zw v5 then zx zblk xs 91 91 [none, none, none, none, some (.inl v4)] [] h else (if zw v4 = 0 then zx zblk xs 91 91 [none, none, none, none, some (.inl v4)] [] h else (zgr h (some p) 7 14 fun f1 => (zai xs h f1 (((11 * v1) + 1) + v5) fun a2 => (zgr h (some p) 7 14 fun f3 => (zai xs h f3 (((11 * v2) + 1) + v5) fun a4 => (if zw a2 ≠ zw a4 then zx zblk xs 91 82 [some (.inr (.inr (some p))), some (.inl v1), some (.inl v2), some (.inl v3), none, some (.inl v5)] [] h else zx zblk xs 91 83 [some (.inr (.inr (some p))), some (.inl v1), some (.inl v2), some (.inl v3), none, some (.inl v5)] [.inl 1] h))))))) := (zx_unfold zblk xs 91 36 _ rfl _ _ _).trans rfl
theorem e_91_82 (xs : List Int) (p : Nat) (v1 : Int) (v2 : Int) (v3 : Int) (v5 : Int) (h : zH) : zx zblk xs 91 82 [some (.inr (.inr (some p))), some (.inl v1), some (.inl v2), some (.inl v3), none, some (.inl v5)] [] h = zx zblk xs 91 83 [some (.inr (.inr (some p))), some (.inl v1), some (.inl v2), some (.inl v3), none, some (.inl v5)] [.inl 0] h := (zx_unfold zblk xs 91 82 _ rfl _ _ _).trans rfl
theorem e_91_83 (xs : List Int) (p : Nat) (v1 : Int) (v2 : Int) (v3 : Int) (v5 : Int) (s0 : Int) (h : zH) : zx zblk xs 91 83 [some (.inr (.inr (some p))), some (.inl v1), some (.inl v2), some (.inl v3), none, some (.inl v5)] [.inl s0] h = zx zblk xs 91 36 [some (.inr (.inr (some p))), some (.inl v1), some (.inl v2), some (.inl v3), some (.inl s0), some (.inl (v5 + 1))] [] h := (zx_unfold zblk xs 91 83 _ rfl _ _ _).trans rfl
theorem e_91_91 (xs : List Int) (v4 : Int) (h : zH) : zx zblk xs 91 91 [none, none, none, none, some (.inl v4)] [] h = (if v4 = 0 ∨ v4 = 1 then some (some (.inl v4), h) else none) := (zx_unfold zblk xs 91 91 _ rfl _ _ _).trans rfl
/-- MindReadersModel.isAlike(II)Z -/
theorem e_92_0 (xs : List Int) (p : Nat) (v1 : Int) (v2 : Int) (h : zH) : zx zblk xs 92 0 [some (.inr (.inr (some p))), some (.inl v1), some (.inl v2)] [] h = (zgr h (some p) 7 14 fun f1 => (zai xs h f1 (11 * v1) fun a2 => (zgr h (some p) 7 14 fun f3 => (zai xs h f3 (11 * v2) fun a4 => (if zw a2 ≠ zw a4 then zx zblk xs 92 43 [] [] h else (zgr h (some p) 7 14 fun f5 => (zai xs h f5 (11 * v1) fun a6 => (zck h (some p) 7 (zci (zx zblk xs 91 0 [some (.inr (.inr (some p))), some (.inl v1), some (.inl v2), some (.inl a6)] [] h) fun r8 h7 => (if zw r8 = 0 then zx zblk xs 92 43 [] [] h7 else zx zblk xs 92 44 [] [.inl 1] h7)))))))))) := (zx_unfold zblk xs 92 0 _ rfl _ _ _).trans rfl
theorem e_92_43 (xs : List Int)  (h : zH) : zx zblk xs 92 43 [] [] h = zx zblk xs 92 44 [] [.inl 0] h := (zx_unfold zblk xs 92 43 _ rfl _ _ _).trans rfl
theorem e_92_44 (xs : List Int) (s0 : Int) (h : zH) : zx zblk xs 92 44 [] [.inl s0] h = (if s0 = 0 ∨ s0 = 1 then some (some (.inl s0), h) else none) := (zx_unfold zblk xs 92 44 _ rfl _ _ _).trans rfl
/-- MindReadersModel.layPage()Z -/
theorem e_93_0 (xs : List Int) (p : Nat) (h : zH) : zx zblk xs 93 0 [some (.inr (.inr (some p)))] [] h = (zpf h (some p) 7 13 (.inl 0) fun h1 => zx zblk xs 93 9 [some (.inr (.inr (some p))), some (.inl 1), some (.inl 0)] [] h1) := (zx_unfold zblk xs 93 0 _ rfl _ _ _).trans rfl
theorem e_93_9 (xs : List Int) (p : Nat) (v1 : Int) (v2 : Int) (h : zH) : zx zblk xs 93 9 [some (.inr (.inr (some p))), some (.inl v1), some (.inl v2)] [] h = (zgi h (some p) 7 1 fun f1 => (if zw f1 ≤ zw v2 then zx zblk xs 93 61 [none, some (.inl v1)] [] h else (if zw v1 = 0 then zx zblk xs 93 61 [none, some (.inl v1)] [] h else (zgr h (some p) 7 0 fun f2 => (zai xs h f2 v2 fun a3 => (zci (zx zblk xs 67 0 [some (.inr (.inl (zw a3))), none, some (.inr (.inl 97)), none, some (.inr (.inl 104)), none] [] h) fun r5 h4 => (if zw r5 = 0 then zx zblk xs 93 55 [some (.inr (.inr (some p))), some (.inl r5), some (.inl v2)] [] h4 else (zgr h4 (some p) 7 0 fun f6 => (zai xs h4 f6 v2 fun a7 => (zck h4 (some p) 7 (zcv (zx zblk xs 85 0 [some (.inr (.inr (some p))), some (.inl (a7 - 97))] [] h4) fun h8 => zx zblk xs 93 55 [some (.inr (.inr (some p))), some (.inl r5), some (.inl v2)] [] h8))))))))))) := (zx_unfold zblk xs 93 9 _ rfl _ _ _).trans rfl
theorem e_93_55 (xs : List Int) (p : Nat) (v1 : Int) (v2 : Int) (h : zH) : zx zblk xs 93 55 [some (.inr (.inr (some p))), some (.inl v1), some (.inl v2)] [] h = zx zblk xs 93 9 [some (.inr (.inr (some p))), some (.inl v1), some (.inl (v2 + 1))] [] h := (zx_unfold zblk xs 93 55 _ rfl _ _ _).trans rfl
theorem e_93_61 (xs : List Int) (v1 : Int) (h : zH) : zx zblk xs 93 61 [none, some (.inl v1)] [] h = (if v1 = 0 ∨ v1 = 1 then some (some (.inl v1), h) else none) := (zx_unfold zblk xs 93 61 _ rfl _ _ _).trans rfl
/-- MindReadersModel.differs(I)I -/
theorem e_94_0 (xs : List Int) (p : Nat) (v1 : Int) (h : zH) : zx zblk xs 94 0 [some (.inr (.inr (some p))), some (.inl v1)] [] h = (zgr h (some p) 7 14 fun f1 => (zai xs h f1 (11 * v1) fun a2 => (zgi h (some p) 7 13 fun f3 => (if zw a2 = zw f3 then zx zblk xs 94 19 [some (.inr (.inr (some p))), some (.inl v1)] [] h else some (some (.inl 1000000), h))))) := (zx_unfold zblk xs 94 0 _ rfl _ _ _).trans rfl
theorem e_94_19 (xs : List Int) (p : Nat) (v1 : Int) (h : zH) : zx zblk xs 94 19 [some (.inr (.inr (some p))), some (.inl v1)] [] h = zx zblk xs 94 23 [some (.inr (.inr (some p))), some (.inl v1), some (.inl 0), some (.inl 0)] [] h := (zx_unfold zblk xs 94 19 _ rfl _ _ _).trans rfl
theorem e_94_23 (xs : List Int) (p : Nat) (v1 : Int) (v2 : Int) (v3 : Int) (h : zH) : zx zblk xs 94 23 [some (.inr (.inr (some p))), some (.inl v1), some (.inl v2), some (.inl v3)] [] h = (zgi h (some p) 7 13 fun f1 => (if zw f1 ≤ zw v3 then zx zblk xs 94 67 [none, none, some (.inl v2)] [] h else (zgr h (some p) 7 14 fun f2 => (zai xs h f2 (((11 * v1) + 1) + v3) fun a3 => (zgr h (some p) 7 12 fun f4 => (zai xs h f4 v3 fun a5 => (if zw a3 ≠ zw a5 then zx zblk xs 94 58 [some (.inr (.inr (some p))), some (.inl v1), none, some (.inl v3)] [.inl v2] h else zx zblk xs 94 59 [some (.inr (.inr (some p))), some (.inl v1), none, some (.inl v3)] [.inl 0, .inl v2] h))))))) := (zx_unfold zblk xs 94 23 _ rfl _ _ _).trans rfl
theorem e_94_58 (xs : List Int) (p : Nat) (v1 : Int) (v3 : Int) (s0 : Int) (h : zH) : zx zblk xs 94 58 [some (.inr (.inr (some p))), some (.inl v1), none, some (.inl v3)] [.inl s0] h = zx zblk xs 94 59 [some (.inr (.inr (some p))), some (.inl v1), none, some (.inl v3)] [.inl 1, .inl s0] h := (zx_unfold zblk xs 94 58 _ rfl _ _ _).trans rfl
theorem e_94_59 (xs : List Int) (p : Nat) (v1 : Int) (v3 : Int) (s0 : Int) (s1 : Int) (h : zH) : zx zblk xs 94 59 [some (.inr (.inr (some p))), some (.inl v1), none, some (.inl v3)] [.inl s1, .inl s0] h = zx zblk xs 94 23 [some (.inr (.inr (some p))), some (.inl v1), some (.inl (s0 + s1)), some (.inl (v3 + 1))] [] h := (zx_unfold zblk xs 94 59 _ rfl _ _ _).trans rfl
theorem e_94_67 (xs : List Int) (v2 : Int) (h : zH) : zx zblk xs 94 67 [none, none, some (.inl v2)] [] h = some (some (.inl v2), h) := (zx_unfold zblk xs 94 67 _ rfl _ _ _).trans rfl
/-- MindReadersModel.namedNow(I)I -/
theorem e_95_0 (xs : List Int) (p : Nat) (v1 : Int) (h : zH) : zx zblk xs 95 0 [some (.inr (.inr (some p))), some (.inl v1)] [] h = zx zblk xs 95 8 [some (.inr (.inr (some p))), some (.inl v1), some (.inl (-1)), some (.inl 1000000), some (.inl 0)] [] h := (zx_unfold zblk xs 95 0 _ rfl _ _ _).trans rfl
theorem e_95_8 (xs : List Int) (p : Nat) (v1 : Int) (v2 : Int) (v3 : Int) (v4 : Int) (h : zH) : zx zblk xs 95 8 [some (.inr (.inr (some p))), some (.inl v1), some (.inl v2), some (.inl v3), some (.inl v4)] [] h = (zgr h (some p) 7 6 fun f1 => (zai xs h f1 v1 fun a2 => (if zw a2 ≤ zw v4 then zx zblk xs 95 59 [none, none, some (.inl v2)] [] h else (zck h (some p) 7 (zci (zx zblk xs 94 0 [some (.inr (.inr (some p))), some (.inl v4)] [] h) fun r4 h3 => (if zw v3 ≤ zw r4 then zx zblk xs 95 38 [some (.inr (.inr (some p))), some (.inl v1), some (.inl v2), some (.inl v3), some (.inl v4), some (.inl r4)] [] h3 else zx zblk xs 95 39 [some (.inr (.inr (some p))), some (.inl v1), none, some (.inl v3), some (.inl v4), some (.inl r4)] [.inl v4] h3)))))) := (zx_unfold zblk xs 95 8 _ rfl _ _ _).trans rfl
theorem e_95_38 (xs : List Int) (p : Nat) (v1 : Int) (v2 : Int) (v3 : Int) (v4 : Int) (v5 : Int) (h : zH) : zx zblk xs 95 38 [some (.inr (.inr (some p))), some (.inl v1), some (.inl v2), some (.inl v3), some (.inl v4), some (.inl v5)] [] h = zx zblk xs 95 39 [some (.inr (.inr (some p))), some (.inl v1), none, some (.inl v3), some (.inl v4), some (.inl v5)] [.inl v2] h := (zx_unfold zblk xs 95 38 _ rfl _ _ _).trans rfl
theorem e_95_39 (xs : List Int) (p : Nat) (v1 : Int) (v3 : Int) (v4 : Int) (v5 : Int) (s0 : Int) (h : zH) : zx zblk xs 95 39 [some (.inr (.inr (some p))), some (.inl v1), none, some (.inl v3), some (.inl v4), some (.inl v5)] [.inl s0] h = (if zw v3 ≤ zw v5 then zx zblk xs 95 51 [some (.inr (.inr (some p))), some (.inl v1), some (.inl s0), some (.inl v3), some (.inl v4)] [] h else zx zblk xs 95 52 [some (.inr (.inr (some p))), some (.inl v1), some (.inl s0), none, some (.inl v4)] [.inl v5] h) := (zx_unfold zblk xs 95 39 _ rfl _ _ _).trans rfl
theorem e_95_51 (xs : List Int) (p : Nat) (v1 : Int) (v2 : Int) (v3 : Int) (v4 : Int) (h : zH) : zx zblk xs 95 51 [some (.inr (.inr (some p))), some (.inl v1), some (.inl v2), some (.inl v3), some (.inl v4)] [] h = zx zblk xs 95 52 [some (.inr (.inr (some p))), some (.inl v1), some (.inl v2), none, some (.inl v4)] [.inl v3] h := (zx_unfold zblk xs 95 51 _ rfl _ _ _).trans rfl
theorem e_95_52 (xs : List Int) (p : Nat) (v1 : Int) (v2 : Int) (v4 : Int) (s0 : Int) (h : zH) : zx zblk xs 95 52 [some (.inr (.inr (some p))), some (.inl v1), some (.inl v2), none, some (.inl v4)] [.inl s0] h = zx zblk xs 95 8 [some (.inr (.inr (some p))), some (.inl v1), some (.inl v2), some (.inl s0), some (.inl (v4 + 1))] [] h := (zx_unfold zblk xs 95 52 _ rfl _ _ _).trans rfl
theorem e_95_59 (xs : List Int) (v2 : Int) (h : zH) : zx zblk xs 95 59 [none, none, some (.inl v2)] [] h = some (some (.inl v2), h) := (zx_unfold zblk xs 95 59 _ rfl _ _ _).trans rfl
/-- MindReadersModel.means(I)I -/
theorem e_96_0 (xs : List Int) (p : Nat) (v1 : Int) (h : zH) : zx zblk xs 96 0 [some (.inr (.inr (some p))), some (.inl v1)] [] h = (zck h (some p) 7 (zci (zx zblk xs 74 0 [some (.inr (.inr (some p))), some (.inl v1)] [] h) fun r2 h1 => (if zw r2 ≠ 0 then zx zblk xs 96 11 [some (.inr (.inr (some p))), some (.inl v1)] [] h1 else some (some (.inl (-101)), h1)))) := (zx_unfold zblk xs 96 0 _ rfl _ _ _).trans rfl
theorem e_96_11 (xs : List Int) (p : Nat) (v1 : Int) (h : zH) : zx zblk xs 96 11 [some (.inr (.inr (some p))), some (.inl v1)] [] h = (zck h (some p) 7 (zcv (zx zblk xs 87 0 [some (.inr (.inr (some p))), some (.inl v1), some (.inl 0)] [] h) fun h1 => (zck h1 (some p) 7 (zci (zx zblk xs 93 0 [some (.inr (.inr (some p)))] [] h1) fun r3 h2 => (if zw r3 ≠ 0 then zx zblk xs 96 27 [some (.inr (.inr (some p))), some (.inl v1)] [] h2 else some (some (.inl (-103)), h2)))))) := (zx_unfold zblk xs 96 11 _ rfl _ _ _).trans rfl
theorem e_96_27 (xs : List Int) (p : Nat) (v1 : Int) (h : zH) : zx zblk xs 96 27 [some (.inr (.inr (some p))), some (.inl v1)] [] h = (zck h (some p) 7 (zci (zx zblk xs 95 0 [some (.inr (.inr (some p))), some (.inl v1)] [] h) fun r2 h1 => (if zw r2 = zw (-1) then zx zblk xs 96 50 [] [] h1 else (zck h1 (some p) 7 (zci (zx zblk xs 94 0 [some (.inr (.inr (some p))), some (.inl r2)] [] h1) fun r4 h3 => (if zw r4 ≠ 0 then zx zblk xs 96 50 [] [] h3 else zx zblk xs 96 51 [] [.inl r2] h3)))))) := (zx_unfold zblk xs 96 27 _ rfl _ _ _).trans rfl
theorem e_96_50 (xs : List Int)  (h : zH) : zx zblk xs 96 50 [] [] h = zx zblk xs 96 51 [] [.inl (-1)] h := (zx_unfold zblk xs 96 50 _ rfl _ _ _).trans rfl
theorem e_96_51 (xs : List Int) (s0 : Int) (h : zH) : zx zblk xs 96 51 [] [.inl s0] h = some (some (.inl s0), h) := (zx_unfold zblk xs 96 51 _ rfl _ _ _).trans rfl
/-- MindReadersModel.alikeOf(I)I -/
theorem e_97_0 (xs : List Int) (p : Nat) (v1 : Int) (h : zH) : zx zblk xs 97 0 [some (.inr (.inr (some p))), some (.inl v1)] [] h = (zck h (some p) 7 (zcv (zx zblk xs 87 0 [some (.inr (.inr (some p))), some (.inl v1), some (.inl 0)] [] h) fun h1 => zx zblk xs 97 8 [some (.inr (.inr (some p))), some (.inl v1), some (.inl 0)] [] h1)) := (zx_unfold zblk xs 97 0 _ rfl _ _ _).trans rfl
theorem e_97_8 (xs : List Int) (p : Nat) (v1 : Int) (v2 : Int) (h : zH) : zx zblk xs 97 8 [some (.inr (.inr (some p))), some (.inl v1), some (.inl v2)] [] h = (zgr h (some p) 7 6 fun f1 => (zai xs h f1 v1 fun a2 => (if zw a2 ≤ zw v2 then zx zblk xs 97 60 [] [] h else zx zblk xs 97 22 [some (.inr (.inr (some p))), some (.inl v1), some (.inl v2), some (.inl (v2 + 1))] [] h))) := (zx_unfold zblk xs 97 8 _ rfl _ _ _).trans rfl
theorem e_97_22 (xs : List Int) (p : Nat) (v1 : Int) (v2 : Int) (v3 : Int) (h : zH) : zx zblk xs 97 22 [some (.inr (.inr (some p))), some (.inl v1), some (.inl v2), some (.inl v3)] [] h = (zgr h (some p) 7 6 fun f1 => (zai xs h f1 v1 fun a2 => (if zw a2 ≤ zw v3 then zx zblk xs 97 54 [some (.inr (.inr (some p))), some (.inl v1), some (.inl v2)] [] h else (zck h (some p) 7 (zci (zx zblk xs 92 0 [some (.inr (.inr (some p))), some (.inl v2), some (.inl v3)] [] h) fun r4 h3 => (if zw r4 = 0 then zx zblk xs 97 48 [some (.inr (.inr (some p))), some (.inl v1), some (.inl v2), some (.inl v3)] [] h3 else some (some (.inl ((8 * v2) + v3)), h3))))))) := (zx_unfold zblk xs 97 22 _ rfl _ _ _).trans rfl
theorem e_97_48 (xs : List Int) (p : Nat) (v1 : Int) (v2 : Int) (v3 : Int) (h : zH) : zx zblk xs 97 48 [some (.inr (.inr (some p))), some (.inl v1), some (.inl v2), some (.inl v3)] [] h = zx zblk xs 97 22 [some (.inr (.inr (some p))), some (.inl v1), some (.inl v2), some (.inl (v3 + 1))] [] h := (zx_unfold zblk xs 97 48 _ rfl _ _ _).trans rfl
theorem e_97_54 (xs : List Int) (p : Nat) (v1 : Int) (v2 : Int) (h : zH) : zx zblk xs 97 54 [some (.inr (.inr (some p))), some (.inl v1), some (.inl v2)] [] h = zx zblk xs 97 8 [some (.inr (.inr (some p))), some (.inl v1), some (.inl (v2 + 1))] [] h := (zx_unfold zblk xs 97 54 _ rfl _ _ _).trans rfl
theorem e_97_60 (xs : List Int)  (h : zH) : zx zblk xs 97 60 [] [] h = some (some (.inl (-1)), h) := (zx_unfold zblk xs 97 60 _ rfl _ _ _).trans rfl
/-- MindReadersModel.clear(II)I -/
theorem e_98_0 (xs : List Int) (p : Nat) (v1 : Int) (v2 : Int) (h : zH) : zx zblk xs 98 0 [some (.inr (.inr (some p))), some (.inl v1), some (.inl v2)] [] h = (zck h (some p) 7 (zci (zx zblk xs 74 0 [some (.inr (.inr (some p))), some (.inl v1)] [] h) fun r2 h1 => (if zw r2 ≠ 0 then zx zblk xs 98 11 [some (.inr (.inr (some p))), some (.inl v1), some (.inl v2)] [] h1 else some (some (.inl (-101)), h1)))) := (zx_unfold zblk xs 98 0 _ rfl _ _ _).trans rfl
theorem e_98_11 (xs : List Int) (p : Nat) (v1 : Int) (v2 : Int) (h : zH) : zx zblk xs 98 11 [some (.inr (.inr (some p))), some (.inl v1), some (.inl v2)] [] h = (zci (zx zblk xs 67 0 [some (.inr (.inl (zw v2))), none, some (.inr (.inl 0)), none, some (.inr (.inl 2)), none] [] h) fun r2 h1 => (if zw r2 ≠ 0 then zx zblk xs 98 26 [some (.inr (.inr (some p))), some (.inl v1), some (.inl v2)] [] h1 else some (some (.inl (-102)), h1))) := (zx_unfold zblk xs 98 11 _ rfl _ _ _).trans rfl
theorem e_98_26 (xs : List Int) (p : Nat) (v1 : Int) (v2 : Int) (h : zH) : zx zblk xs 98 26 [some (.inr (.inr (some p))), some (.inl v1), some (.inl v2)] [] h = (zck h (some p) 7 (zci (zx zblk xs 97 0 [some (.inr (.inr (some p))), some (.inl v1)] [] h) fun r2 h1 => (if zw v2 ≠ 0 then zx zblk xs 98 47 [none, none, some (.inl v2), some (.inl r2)] [] h1 else (if zw r2 ≠ zw (-1) then zx zblk xs 98 45 [] [] h1 else zx zblk xs 98 46 [] [.inl 1] h1)))) := (zx_unfold zblk xs 98 26 _ rfl _ _ _).trans rfl
theorem e_98_45 (xs : List Int)  (h : zH) : zx zblk xs 98 45 [] [] h = zx zblk xs 98 46 [] [.inl 0] h := (zx_unfold zblk xs 98 45 _ rfl _ _ _).trans rfl
theorem e_98_46 (xs : List Int) (s0 : Int) (h : zH) : zx zblk xs 98 46 [] [.inl s0] h = some (some (.inl s0), h) := (zx_unfold zblk xs 98 46 _ rfl _ _ _).trans rfl
theorem e_98_47 (xs : List Int) (v2 : Int) (v3 : Int) (h : zH) : zx zblk xs 98 47 [none, none, some (.inl v2), some (.inl v3)] [] h = (if zw v3 ≠ zw (-1) then zx zblk xs 98 56 [none, none, some (.inl v2), some (.inl v3)] [] h else zx zblk xs 98 72 [] [.inl (-1)] h) := (zx_unfold zblk xs 98 47 _ rfl _ _ _).trans rfl
theorem e_98_56 (xs : List Int) (v2 : Int) (v3 : Int) (h : zH) : zx zblk xs 98 56 [none, none, some (.inl v2), some (.inl v3)] [] h = (if zw v2 ≠ zw 1 then zx zblk xs 98 68 [none, none, none, some (.inl v3)] [] h else (if zw 8 = 0 then none else zx zblk xs 98 72 [] [.inl ((zw v3).tdiv (zw 8))] h)) := (zx_unfold zblk xs 98 56 _ rfl _ _ _).trans rfl
theorem e_98_68 (xs : List Int) (v3 : Int) (h : zH) : zx zblk xs 98 68 [none, none, none, some (.inl v3)] [] h = (if zw 8 = 0 then none else zx zblk xs 98 72 [] [.inl ((zw v3).tmod (zw 8))] h) := (zx_unfold zblk xs 98 68 _ rfl _ _ _).trans rfl
theorem e_98_72 (xs : List Int) (s0 : Int) (h : zH) : zx zblk xs 98 72 [] [.inl s0] h = some (some (.inl s0), h) := (zx_unfold zblk xs 98 72 _ rfl _ _ _).trans rfl
/-- MindReadersModel.starts(II)I -/
theorem e_99_0 (xs : List Int) (p : Nat) (v1 : Int) (v2 : Int) (h : zH) : zx zblk xs 99 0 [some (.inr (.inr (some p))), some (.inl v1), some (.inl v2)] [] h = (zck h (some p) 7 (zci (zx zblk xs 74 0 [some (.inr (.inr (some p))), some (.inl v1)] [] h) fun r2 h1 => (if zw r2 ≠ 0 then zx zblk xs 99 11 [some (.inr (.inr (some p))), some (.inl v1), some (.inl v2)] [] h1 else some (some (.inl (-101)), h1)))) := (zx_unfold zblk xs 99 0 _ rfl _ _ _).trans rfl
theorem e_99_11 (xs : List Int) (p : Nat) (v1 : Int) (v2 : Int) (h : zH) : zx zblk xs 99 11 [some (.inr (.inr (some p))), some (.inl v1), some (.inl v2)] [] h = (zci (zx zblk xs 67 0 [some (.inr (.inl (zw v2))), none, some (.inr (.inl 0)), none, some (.inr (.inl 1)), none] [] h) fun r2 h1 => (if zw r2 ≠ 0 then zx zblk xs 99 24 [some (.inr (.inr (some p))), some (.inl v1), some (.inl v2)] [] h1 else some (some (.inl (-102)), h1))) := (zx_unfold zblk xs 99 11 _ rfl _ _ _).trans rfl
theorem e_99_24 (xs : List Int) (p : Nat) (v1 : Int) (v2 : Int) (h : zH) : zx zblk xs 99 24 [some (.inr (.inr (some p))), some (.inl v1), some (.inl v2)] [] h = (zck h (some p) 7 (zcv (zx zblk xs 87 0 [some (.inr (.inr (some p))), some (.inl v1), some (.inl 0)] [] h) fun h1 => zx zblk xs 99 32 [some (.inr (.inr (some p))), some (.inl v1), some (.inl v2), some (.inl 0)] [] h1)) := (zx_unfold zblk xs 99 24 _ rfl _ _ _).trans rfl
theorem e_99_32 (xs : List Int) (p : Nat) (v1 : Int) (v2 : Int) (v3 : Int) (h : zH) : zx zblk xs 99 32 [some (.inr (.inr (some p))), some (.inl v1), some (.inl v2), some (.inl v3)] [] h = (if zw 64 ≤ zw v3 then zx zblk xs 99 153 [] [] h else (if zw 8 = 0 then none else (if zw 8 = 0 then none else (if zw ((zw v3).tdiv (zw 8)) = zw ((zw v3).tmod (zw 8)) then zx zblk xs 99 83 [some (.inr (.inr (some p))), some (.inl v1), some (.inl v2), some (.inl v3), some (.inl ((zw v3).tdiv (zw 8))), some (.inl ((zw v3).tmod (zw 8)))] [] h else (zgr h (some p) 7 6 fun f1 => (zai xs h f1 v1 fun a2 => (if zw a2 ≤ zw ((zw v3).tdiv (zw 8)) then zx zblk xs 99 83 [some (.inr (.inr (some p))), some (.inl v1), some (.inl v2), some (.inl v3), some (.inl ((zw v3).tdiv (zw 8))), some (.inl ((zw v3).tmod (zw 8)))] [] h else (zgr h (some p) 7 6 fun f3 => (zai xs h f3 v1 fun a4 => (if zw a4 ≤ zw ((zw v3).tmod (zw 8)) then zx zblk xs 99 83 [some (.inr (.inr (some p))), some (.inl v1), some (.inl v2), some (.inl v3), some (.inl ((zw v3).tdiv (zw 8))), some (.inl ((zw v3).tmod (zw 8)))] [] h else zx zblk xs 99 84 [some (.inr (.inr (some p))), some (.inl v1), some (.inl v2), some (.inl v3), some (.inl ((zw v3).tdiv (zw 8))), some (.inl ((zw v3).tmod (zw 8)))] [.inl 1] h)))))))))) := (zx_unfold zblk xs 99 32 _ rfl _ _ _).trans rfl
theorem e_99_83 (xs : List Int) (p : Nat) (v1 : Int) (v2 : Int) (v3 : Int) (v4 : Int) (v5 : Int) (h : zH) : zx zblk xs 99 83 [some (.inr (.inr (some p))), some (.inl v1), some (.inl v2), some (.inl v3), some (.inl v4), some (.inl v5)] [] h = zx zblk xs 99 84 [some (.inr (.inr (some p))), some (.inl v1), some (.inl v2), some (.inl v3), some (.inl v4), some (.inl v5)] [.inl 0] h := (zx_unfold zblk xs 99 83 _ rfl _ _ _).trans rfl
theorem e_99_84 (xs : List Int) (p : Nat) (v1 : Int) (v2 : Int) (v3 : Int) (v4 : Int) (v5 : Int) (s0 : Int) (h : zH) : zx zblk xs 99 84 [some (.inr (.inr (some p))), some (.inl v1), some (.inl v2), some (.inl v3), some (.inl v4), some (.inl v5)] [.inl s0] h = (if zw s0 = 0 then zx zblk xs 99 147 [some (.inr (.inr (some p))), some (.inl v1), some (.inl v2), some (.inl v3)] [] h else (zgr h (some p) 7 14 fun f1 => (zai xs h f1 (11 * v4) fun a2 => (zgr h (some p) 7 14 fun f3 => (zai xs h f3 (11 * v5) fun a4 => (if zw a4 ≤ zw a2 then zx zblk xs 99 147 [some (.inr (.inr (some p))), some (.inl v1), some (.inl v2), some (.inl v3)] [] h else (zgr h (some p) 7 14 fun f5 => (zai xs h f5 (11 * v4) fun a6 => (zck h (some p) 7 (zci (zx zblk xs 91 0 [some (.inr (.inr (some p))), some (.inl v4), some (.inl v5), some (.inl a6)] [] h) fun r8 h7 => (if zw r8 = 0 then zx zblk xs 99 147 [some (.inr (.inr (some p))), some (.inl v1), some (.inl v2), some (.inl v3)] [] h7 else (if zw v2 ≠ 0 then zx zblk xs 99 144 [none, none, none, none, none, some (.inl v5)] [] h7 else zx zblk xs 99 146 [] [.inl v4] h7)))))))))))) := (zx_unfold zblk xs 99 84 _ rfl _ _ _).trans rfl
theorem e_99_144 (xs : List Int) (v5 : Int) (h : zH) : zx zblk xs 99 144 [none, none, none, none, none, some (.inl v5)] [] h = zx zblk xs 99 146 [] [.inl v5] h := (zx_unfold zblk xs 99 144 _ rfl _ _ _).trans rfl
theorem e_99_146 (xs : List Int) (s0 : Int) (h : zH) : zx zblk xs 99 146 [] [.inl s0] h = some (some (.inl s0), h) := (zx_unfold zblk xs 99 146 _ rfl _ _ _).trans rfl
theorem e_99_147 (xs : List Int) (p : Nat) (v1 : Int) (v2 : Int) (v3 : Int) (h : zH) : zx zblk xs 99 147 [some (.inr (.inr (some p))), some (.inl v1), some (.inl v2), some (.inl v3)] [] h = zx zblk xs 99 32 [some (.inr (.inr (some p))), some (.inl v1), some (.inl v2), some (.inl (v3 + 1))] [] h := (zx_unfold zblk xs 99 147 _ rfl _ _ _).trans rfl
theorem e_99_153 (xs : List Int)  (h : zH) : zx zblk xs 99 153 [] [] h = some (some (.inl (-1)), h) := (zx_unfold zblk xs 99 153 _ rfl _ _ _).trans rfl
/-- MindReadersModel.goesOn(III)Z -/
theorem e_100_0 (xs : List Int) (p : Nat) (v1 : Int) (v2 : Int) (v3 : Int) (h : zH) : zx zblk xs 100 0 [some (.inr (.inr (some p))), some (.inl v1), some (.inl v2), some (.inl v3)] [] h = (zgr h (some p) 7 14 fun f1 => (zai xs h f1 (11 * v1) fun a2 => (zgr h (some p) 7 14 fun f3 => (zai xs h f3 (11 * v3) fun a4 => (if zw a4 ≤ zw (a2 - v2) then zx zblk xs 100 32 [some (.inr (.inr (some p))), some (.inl v1), some (.inl v2), some (.inl v3)] [] h else zx zblk xs 100 41 [some (.inr (.inr (some p))), some (.inl v1), some (.inl v2), some (.inl v3)] [.inl (a2 - v2)] h))))) := (zx_unfold zblk xs 100 0 _ rfl _ _ _).trans rfl
theorem e_100_32 (xs : List Int) (p : Nat) (v1 : Int) (v2 : Int) (v3 : Int) (h : zH) : zx zblk xs 100 32 [some (.inr (.inr (some p))), some (.inl v1), some (.inl v2), some (.inl v3)] [] h = (zgr h (some p) 7 14 fun f1 => (zai xs h f1 (11 * v3) fun a2 => zx zblk xs 100 41 [some (.inr (.inr (some p))), some (.inl v1), some (.inl v2), some (.inl v3)] [.inl a2] h)) := (zx_unfold zblk xs 100 32 _ rfl _ _ _).trans rfl
theorem e_100_41 (xs : List Int) (p : Nat) (v1 : Int) (v2 : Int) (v3 : Int) (s0 : Int) (h : zH) : zx zblk xs 100 41 [some (.inr (.inr (some p))), some (.inl v1), some (.inl v2), some (.inl v3)] [.inl s0] h = zx zblk xs 100 49 [some (.inr (.inr (some p))), some (.inl v1), some (.inl v2), some (.inl v3), none, some (.inl s0), some (.inl 1), some (.inl 0)] [] h := (zx_unfold zblk xs 100 41 _ rfl _ _ _).trans rfl
theorem e_100_49 (xs : List Int) (p : Nat) (v1 : Int) (v2 : Int) (v3 : Int) (v5 : Int) (v6 : Int) (v7 : Int) (h : zH) : zx zblk xs 100 49 [some (.inr (.inr (some p))), some (.inl v1), some (.inl v2), some (.inl v3), none, some (.inl v5), some (.inl v6), some (.inl v7)] [] h = (if zw v5 ≤ zw v7 then zx zblk xs 100 107 [none, none, none, none, none, none, some (.inl v6)] [] h else (if zw v6 = 0 then zx zblk xs 100 107 [none, none, none, none, none, none, some (.inl v6)] [] h else (zgr h (some p) 7 14 fun f1 => (zai xs h f1 ((((11 * v1) + 1) + v2) + v7) fun a2 => (zgr h (some p) 7 14 fun f3 => (zai xs h f3 (((11 * v3) + 1) + v7) fun a4 => (if zw a2 ≠ zw a4 then zx zblk xs 100 98 [some (.inr (.inr (some p))), some (.inl v1), some (.inl v2), some (.inl v3), none, some (.inl v5), none, some (.inl v7)] [] h else zx zblk xs 100 99 [some (.inr (.inr (some p))), some (.inl v1), some (.inl v2), some (.inl v3), none, some (.inl v5), none, some (.inl v7)] [.inl 1] h))))))) := (zx_unfold zblk xs 100 49 _ rfl _ _ _).trans rfl
theorem e_100_98 (xs : List Int) (p : Nat) (v1 : Int) (v2 : Int) (v3 : Int) (v5 : Int) (v7 : Int) (h : zH) : zx zblk xs 100 98 [some (.inr (.inr (some p))), some (.inl v1), some (.inl v2), some (.inl v3), none, some (.inl v5), none, some (.inl v7)] [] h = zx zblk xs 100 99 [some (.inr (.inr (some p))), some (.inl v1), some (.inl v2), some (.inl v3), none, some (.inl v5), none, some (.inl v7)] [.inl 0] h := (zx_unfold zblk xs 100 98 _ rfl _ _ _).trans rfl
theorem e_100_99 (xs : List Int) (p : Nat) (v1 : Int) (v2 : Int) (v3 : Int) (v5 : Int) (v7 : Int) (s0 : Int) (h : zH) : zx zblk xs 100 99 [some (.inr (.inr (some p))), some (.inl v1), some (.inl v2), some (.inl v3), none, some (.inl v5), none, some (.inl v7)] [.inl s0] h = zx zblk xs 100 49 [some (.inr (.inr (some p))), some (.inl v1), some (.inl v2), some (.inl v3), none, some (.inl v5), some (.inl s0), some (.inl (v7 + 1))] [] h := (zx_unfold zblk xs 100 99 _ rfl _ _ _).trans rfl
theorem e_100_107 (xs : List Int) (v6 : Int) (h : zH) : zx zblk xs 100 107 [none, none, none, none, none, none, some (.inl v6)] [] h = (if v6 = 0 ∨ v6 = 1 then some (some (.inl v6), h) else none) := (zx_unfold zblk xs 100 107 _ rfl _ _ _).trans rfl
/-- MindReadersModel.reach(III)Z -/
theorem e_101_0 (xs : List Int) (p : Nat) (v1 : Int) (v2 : Int) (v3 : Int) (h : zH) : zx zblk xs 101 0 [some (.inr (.inr (some p))), some (.inl v1), some (.inl v2), some (.inl v3)] [] h = (zgr h (some p) 7 14 fun f1 => (zai xs h f1 (11 * v1) fun a2 => (if zw v2 ≠ zw a2 then zx zblk xs 101 35 [some (.inr (.inr (some p))), some (.inl v1), some (.inl v2), some (.inl v3)] [] h else (zgi h (some p) 7 16 fun f3 => (if zw f3 ≤ zw v3 then zx zblk xs 101 26 [some (.inr (.inr (some p)))] [.inr (.inr (some p))] h else zx zblk xs 101 30 [] [.inl v3, .inr (.inr (some p))] h))))) := (zx_unfold zblk xs 101 0 _ rfl _ _ _).trans rfl
theorem e_101_26 (xs : List Int) (p : Nat) (s0 : Option Nat) (h : zH) : zx zblk xs 101 26 [some (.inr (.inr (some p)))] [.inr (.inr s0)] h = (zgi h (some p) 7 16 fun f1 => zx zblk xs 101 30 [] [.inl f1, .inr (.inr s0)] h) := (zx_unfold zblk xs 101 26 _ rfl _ _ _).trans rfl
theorem e_101_30 (xs : List Int) (s0 : Option Nat) (s1 : Int) (h : zH) : zx zblk xs 101 30 [] [.inl s1, .inr (.inr s0)] h = (zpf h s0 7 16 (.inl s1) fun h1 => (if 0 = 0 ∨ 0 = 1 then some (some (.inl 0), h1) else none)) := (zx_unfold zblk xs 101 30 _ rfl _ _ _).trans rfl
theorem e_101_35 (xs : List Int) (p : Nat) (v1 : Int) (v2 : Int) (v3 : Int) (h : zH) : zx zblk xs 101 35 [some (.inr (.inr (some p))), some (.inl v1), some (.inl v2), some (.inl v3)] [] h = (zgr h (some p) 7 15 fun f1 => (zai xs h f1 ((11 * v1) + v2) fun a2 => (if zw a2 ≤ zw v3 then zx zblk xs 101 54 [some (.inr (.inr (some p))), some (.inl v1), some (.inl v2), some (.inl v3)] [] h else zx zblk xs 101 55 [some (.inr (.inr (some p))), some (.inl v1), some (.inl v2), some (.inl v3)] [.inl 1] h))) := (zx_unfold zblk xs 101 35 _ rfl _ _ _).trans rfl
theorem e_101_54 (xs : List Int) (p : Nat) (v1 : Int) (v2 : Int) (v3 : Int) (h : zH) : zx zblk xs 101 54 [some (.inr (.inr (some p))), some (.inl v1), some (.inl v2), some (.inl v3)] [] h = zx zblk xs 101 55 [some (.inr (.inr (some p))), some (.inl v1), some (.inl v2), some (.inl v3)] [.inl 0] h := (zx_unfold zblk xs 101 54 _ rfl _ _ _).trans rfl
theorem e_101_55 (xs : List Int) (p : Nat) (v1 : Int) (v2 : Int) (v3 : Int) (s0 : Int) (h : zH) : zx zblk xs 101 55 [some (.inr (.inr (some p))), some (.inl v1), some (.inl v2), some (.inl v3)] [.inl s0] h = (zgr h (some p) 7 15 fun f1 => (if zw s0 = 0 then zx zblk xs 101 76 [some (.inr (.inr (some p))), some (.inl v1), some (.inl v2), none, some (.inl s0)] [.inl ((11 * v1) + v2), .inr (.inr f1)] h else zx zblk xs 101 87 [none, none, none, none, some (.inl s0)] [.inl v3, .inl ((11 * v1) + v2), .inr (.inr f1)] h)) := (zx_unfold zblk xs 101 55 _ rfl _ _ _).trans rfl
theorem e_101_76 (xs : List Int) (p : Nat) (v1 : Int) (v2 : Int) (v4 : Int) (s0 : Option Nat) (s1 : Int) (h : zH) : zx zblk xs 101 76 [some (.inr (.inr (some p))), some (.inl v1), some (.inl v2), none, some (.inl v4)] [.inl s1, .inr (.inr s0)] h = (zgr h (some p) 7 15 fun f1 => (zai xs h f1 ((11 * v1) + v2) fun a2 => zx zblk xs 101 87 [none, none, none, none, some (.inl v4)] [.inl a2, .inl s1, .inr (.inr s0)] h)) := (zx_unfold zblk xs 101 76 _ rfl _ _ _).trans rfl
theorem e_101_87 (xs : List Int) (v4 : Int) (s0 : Option Nat) (s1 : Int) (s2 : Int) (h : zH) : zx zblk xs 101 87 [none, none, none, none, some (.inl v4)] [.inl s2, .inl s1, .inr (.inr s0)] h = (zst h s0 100 s1 (.inl s2) fun h1 => (if v4 = 0 ∨ v4 = 1 then some (some (.inl v4), h1) else none)) := (zx_unfold zblk xs 101 87 _ rfl _ _ _).trans rfl
/-- MindReadersModel.reachBy(IIII)Z -/
theorem e_102_0 (xs : List Int) (p : Nat) (v1 : Int) (v2 : Int) (v3 : Int) (v4 : Int) (h : zH) : zx zblk xs 102 0 [some (.inr (.inr (some p))), some (.inl v1), some (.inl v2), some (.inl v3), some (.inl v4)] [] h = (zgr h (some p) 7 14 fun f1 => (zai xs h f1 (11 * v1) fun a2 => (zgr h (some p) 7 14 fun f3 => (zai xs h f3 (11 * v3) fun a4 => (if zw (a2 - v2) < zw a4 then zx zblk xs 102 45 [some (.inr (.inr (some p))), none, none, some (.inl v3), some (.inl v4), some (.inl (a2 - v2)), some (.inl a4)] [] h else (zck h (some p) 7 (zci (zx zblk xs 101 0 [some (.inr (.inr (some p))), some (.inl v1), some (.inl (v2 + a4)), some (.inl v4)] [] h) fun r6 h5 => zx zblk xs 102 60 [] [.inl r6] h5))))))) := (zx_unfold zblk xs 102 0 _ rfl _ _ _).trans rfl
theorem e_102_45 (xs : List Int) (p : Nat) (v3 : Int) (v4 : Int) (v5 : Int) (v6 : Int) (h : zH) : zx zblk xs 102 45 [some (.inr (.inr (some p))), none, none, some (.inl v3), some (.inl v4), some (.inl v5), some (.inl v6)] [] h = (zck h (some p) 7 (zci (zx zblk xs 101 0 [some (.inr (.inr (some p))), some (.inl v3), some (.inl v5), some (.inl ((v4 + v6) - v5))] [] h) fun r2 h1 => zx zblk xs 102 60 [] [.inl r2] h1)) := (zx_unfold zblk xs 102 45 _ rfl _ _ _).trans rfl
theorem e_102_60 (xs : List Int) (s0 : Int) (h : zH) : zx zblk xs 102 60 [] [.inl s0] h = (if s0 = 0 ∨ s0 = 1 then some (some (.inl s0), h) else none) := (zx_unfold zblk xs 102 60 _ rfl _ _ _).trans rfl
/-- MindReadersModel.twiceOf(I)I -/
theorem e_103_0 (xs : List Int) (p : Nat) (v1 : Int) (h : zH) : zx zblk xs 103 0 [some (.inr (.inr (some p))), some (.inl v1)] [] h = (zck h (some p) 7 (zcv (zx zblk xs 87 0 [some (.inr (.inr (some p))), some (.inl v1), some (.inl 0)] [] h) fun h1 => (zgr h1 (some p) 7 6 fun f2 => (zai xs h1 f2 v1 fun a3 => (zpf h1 (some p) 7 16 (.inl 1000000) fun h4 => zx zblk xs 103 21 [some (.inr (.inr (some p))), none, some (.inl a3), some (.inl 0)] [] h4))))) := (zx_unfold zblk xs 103 0 _ rfl _ _ _).trans rfl
theorem e_103_21 (xs : List Int) (p : Nat) (v2 : Int) (v3 : Int) (h : zH) : zx zblk xs 103 21 [some (.inr (.inr (some p))), none, some (.inl v2), some (.inl v3)] [] h = (if zw 88 ≤ zw v3 then zx zblk xs 103 41 [some (.inr (.inr (some p))), none, some (.inl v2)] [] h else (zgr h (some p) 7 15 fun f1 => (zst h f1 100 v3 (.inl 1000000) fun h2 => zx zblk xs 103 21 [some (.inr (.inr (some p))), none, some (.inl v2), some (.inl (v3 + 1))] [] h2))) := (zx_unfold zblk xs 103 21 _ rfl _ _ _).trans rfl
theorem e_103_41 (xs : List Int) (p : Nat) (v2 : Int) (h : zH) : zx zblk xs 103 41 [some (.inr (.inr (some p))), none, some (.inl v2)] [] h = zx zblk xs 103 43 [some (.inr (.inr (some p))), none, some (.inl v2), some (.inl 0)] [] h := (zx_unfold zblk xs 103 41 _ rfl _ _ _).trans rfl
theorem e_103_43 (xs : List Int) (p : Nat) (v2 : Int) (v3 : Int) (h : zH) : zx zblk xs 103 43 [some (.inr (.inr (some p))), none, some (.inl v2), some (.inl v3)] [] h = (if zw v2 ≤ zw v3 then zx zblk xs 103 167 [some (.inr (.inr (some p))), none, some (.inl v2)] [] h else zx zblk xs 103 51 [some (.inr (.inr (some p))), none, some (.inl v2), some (.inl v3), some (.inl 0)] [] h) := (zx_unfold zblk xs 103 43 _ rfl _ _ _).trans rfl
theorem e_103_51 (xs : List Int) (p : Nat) (v2 : Int) (v3 : Int) (v4 : Int) (h : zH) : zx zblk xs 103 51 [some (.inr (.inr (some p))), none, some (.inl v2), some (.inl v3), some (.inl v4)] [] h = (if zw v2 ≤ zw v4 then zx zblk xs 103 161 [some (.inr (.inr (some p))), none, some (.inl v2), some (.inl v3)] [] h else (if zw v3 = zw v4 then zx zblk xs 103 101 [some (.inr (.inr (some p))), none, some (.inl v2), some (.inl v3), some (.inl v4)] [] h else (zgr h (some p) 7 14 fun f1 => (zai xs h f1 (11 * v3) fun a2 => (if zw a2 ≤ 0 then zx zblk xs 103 101 [some (.inr (.inr (some p))), none, some (.inl v2), some (.inl v3), some (.inl v4)] [] h else (zgr h (some p) 7 14 fun f3 => (zai xs h f3 (11 * v3) fun a4 => (zgr h (some p) 7 14 fun f5 => (zai xs h f5 (11 * v4) fun a6 => (if zw a6 < zw a4 then zx zblk xs 103 101 [some (.inr (.inr (some p))), none, some (.inl v2), some (.inl v3), some (.inl v4)] [] h else zx zblk xs 103 102 [some (.inr (.inr (some p))), none, some (.inl v2), some (.inl v3), some (.inl v4)] [.inl 1] h)))))))))) := (zx_unfold zblk xs 103 51 _ rfl _ _ _).trans rfl
theorem e_103_101 (xs : List Int) (p : Nat) (v2 : Int) (v3 : Int) (v4 : Int) (h : zH) : zx zblk xs 103 101 [some (.inr (.inr (some p))), none, some (.inl v2), some (.inl v3), some (.inl v4)] [] h = zx zblk xs 103 102 [some (.inr (.inr (some p))), none, some (.inl v2), some (.inl v3), some (.inl v4)] [.inl 0] h := (zx_unfold zblk xs 103 101 _ rfl _ _ _).trans rfl
theorem e_103_102 (xs : List Int) (p : Nat) (v2 : Int) (v3 : Int) (v4 : Int) (s0 : Int) (h : zH) : zx zblk xs 103 102 [some (.inr (.inr (some p))), none, some (.inl v2), some (.inl v3), some (.inl v4)] [.inl s0] h = (if zw s0 = 0 then zx zblk xs 103 152 [some (.inr (.inr (some p))), none, some (.inl v2), some (.inl v3), some (.inl v4)] [] h else (zck h (some p) 7 (zci (zx zblk xs 100 0 [some (.inr (.inr (some p))), some (.inl v4), some (.inl 0), some (.inl v3)] [] h) fun r2 h1 => (if zw r2 = 0 then zx zblk xs 103 152 [some (.inr (.inr (some p))), none, some (.inl v2), some (.inl v3), some (.inl v4)] [] h1 else (zgr h1 (some p) 7 14 fun f3 => (zai xs h1 f3 (11 * v3) fun a4 => (zgr h1 (some p) 7 14 fun f5 => (zai xs h1 f5 (11 * v4) fun a6 => (zck h1 (some p) 7 (zci (zx zblk xs 101 0 [some (.inr (.inr (some p))), some (.inl v4), some (.inl a4), some (.inl a6)] [] h1) fun r8 h7 => (if zw r8 = 0 then zx zblk xs 103 152 [some (.inr (.inr (some p))), none, some (.inl v2), some (.inl v3), some (.inl v4)] [] h7 else zx zblk xs 103 153 [some (.inr (.inr (some p))), none, some (.inl v2), some (.inl v3), some (.inl v4)] [.inl 1] h7))))))))))) := (zx_unfold zblk xs 103 102 _ rfl _ _ _).trans rfl
theorem e_103_152 (xs : List Int) (p : Nat) (v2 : Int) (v3 : Int) (v4 : Int) (h : zH) : zx zblk xs 103 152 [some (.inr (.inr (some p))), none, some (.inl v2), some (.inl v3), some (.inl v4)] [] h = zx zblk xs 103 153 [some (.inr (.inr (some p))), none, some (.inl v2), some (.inl v3), some (.inl v4)] [.inl 0] h := (zx_unfold zblk xs 103 152 _ rfl _ _ _).trans rfl
theorem e_103_153 (xs : List Int) (p : Nat) (v2 : Int) (v3 : Int) (v4 : Int) (s0 : Int) (h : zH) : zx zblk xs 103 153 [some (.inr (.inr (some p))), none, some (.inl v2), some (.inl v3), some (.inl v4)] [.inl s0] h = zx zblk xs 103 51 [some (.inr (.inr (some p))), none, some (.inl v2), some (.inl v3), some (.inl (v4 + 1))] [] h := (zx_unfold zblk xs 103 153 _ rfl _ _ _).trans rfl
theorem e_103_161 (xs : List Int) (p : Nat) (v2 : Int) (v3 : Int) (h : zH) : zx zblk xs 103 161 [some (.inr (.inr (some p))), none, some (.inl v2), some (.inl v3)] [] h = zx zblk xs 103 43 [some (.inr (.inr (some p))), none, some (.inl v2), some (.inl (v3 + 1))] [] h := (zx_unfold zblk xs 103 161 _ rfl _ _ _).trans rfl
theorem e_103_167 (xs : List Int) (p : Nat) (v2 : Int) (h : zH) : zx zblk xs 103 167 [some (.inr (.inr (some p))), none, some (.inl v2)] [] h = zx zblk xs 103 169 [some (.inr (.inr (some p))), none, some (.inl v2), some (.inl 1)] [] h := (zx_unfold zblk xs 103 167 _ rfl _ _ _).trans rfl
theorem e_103_169 (xs : List Int) (p : Nat) (v2 : Int) (v3 : Int) (h : zH) : zx zblk xs 103 169 [some (.inr (.inr (some p))), none, some (.inl v2), some (.inl v3)] [] h = (if zw v3 = 0 then zx zblk xs 103 315 [some (.inr (.inr (some p)))] [] h else zx zblk xs 103 178 [some (.inr (.inr (some p))), none, some (.inl v2), some (.inl 0), some (.inl 0)] [] h) := (zx_unfold zblk xs 103 169 _ rfl _ _ _).trans rfl
theorem e_103_178 (xs : List Int) (p : Nat) (v2 : Int) (v3 : Int) (v4 : Int) (h : zH) : zx zblk xs 103 178 [some (.inr (.inr (some p))), none, some (.inl v2), some (.inl v3), some (.inl v4)] [] h = (if zw 88 ≤ zw v4 then zx zblk xs 103 312 [some (.inr (.inr (some p))), none, some (.inl v2), some (.inl v3)] [] h else (if zw 11 = 0 then none else (if zw 11 = 0 then none else zx zblk xs 103 202 [some (.inr (.inr (some p))), none, some (.inl v2), some (.inl v3), some (.inl v4), some (.inl ((zw v4).tdiv (zw 11))), some (.inl ((zw v4).tmod (zw 11))), some (.inl 0)] [] h))) := (zx_unfold zblk xs 103 178 _ rfl _ _ _).trans rfl
theorem e_103_202 (xs : List Int) (p : Nat) (v2 : Int) (v3 : Int) (v4 : Int) (v5 : Int) (v6 : Int) (v7 : Int) (h : zH) : zx zblk xs 103 202 [some (.inr (.inr (some p))), none, some (.inl v2), some (.inl v3), some (.inl v4), some (.inl v5), some (.inl v6), some (.inl v7)] [] h = (if zw v2 ≤ zw v7 then zx zblk xs 103 306 [some (.inr (.inr (some p))), none, some (.inl v2), some (.inl v3), some (.inl v4)] [] h else (zgr h (some p) 7 15 fun f1 => (zai xs h f1 v4 fun a2 => (if zw 1000000 ≤ zw a2 then zx zblk xs 103 306 [some (.inr (.inr (some p))), none, some (.inl v2), some (.inl v3), some (.inl v4)] [] h else (zgr h (some p) 7 14 fun f3 => (zai xs h f3 (11 * v7) fun a4 => (if zw a4 ≤ 0 then zx zblk xs 103 250 [some (.inr (.inr (some p))), none, some (.inl v2), some (.inl v3), some (.inl v4), some (.inl v5), some (.inl v6), some (.inl v7)] [] h else (zck h (some p) 7 (zci (zx zblk xs 100 0 [some (.inr (.inr (some p))), some (.inl v5), some (.inl v6), some (.inl v7)] [] h) fun r6 h5 => (if zw r6 = 0 then zx zblk xs 103 250 [some (.inr (.inr (some p))), none, some (.inl v2), some (.inl v3), some (.inl v4), some (.inl v5), some (.inl v6), some (.inl v7)] [] h5 else zx zblk xs 103 251 [some (.inr (.inr (some p))), none, some (.inl v2), some (.inl v3), some (.inl v4), some (.inl v5), some (.inl v6), some (.inl v7)] [.inl 1] h5)))))))))) := (zx_unfold zblk xs 103 202 _ rfl _ _ _).trans rfl
theorem e_103_250 (xs : List Int) (p : Nat) (v2 : Int) (v3 : Int) (v4 : Int) (v5 : Int) (v6 : Int) (v7 : Int) (h : zH) : zx zblk xs 103 250 [some (.inr (.inr (some p))), none, some (.inl v2), some (.inl v3), some (.inl v4), some (.inl v5), some (.inl v6), some (.inl v7)] [] h = zx zblk xs 103 251 [some (.inr (.inr (some p))), none, some (.inl v2), some (.inl v3), some (.inl v4), some (.inl v5), some (.inl v6), some (.inl v7)] [.inl 0] h := (zx_unfold zblk xs 103 250 _ rfl _ _ _).trans rfl
theorem e_103_251 (xs : List Int) (p : Nat) (v2 : Int) (v3 : Int) (v4 : Int) (v5 : Int) (v6 : Int) (v7 : Int) (s0 : Int) (h : zH) : zx zblk xs 103 251 [some (.inr (.inr (some p))), none, some (.inl v2), some (.inl v3), some (.inl v4), some (.inl v5), some (.inl v6), some (.inl v7)] [.inl s0] h = (if zw s0 = 0 then zx zblk xs 103 282 [some (.inr (.inr (some p))), none, some (.inl v2), some (.inl v3), some (.inl v4), some (.inl v5), some (.inl v6), some (.inl v7)] [] h else (zgr h (some p) 7 15 fun f1 => (zai xs h f1 v4 fun a2 => (zck h (some p) 7 (zci (zx zblk xs 102 0 [some (.inr (.inr (some p))), some (.inl v5), some (.inl v6), some (.inl v7), some (.inl a2)] [] h) fun r4 h3 => (if zw r4 = 0 then zx zblk xs 103 282 [some (.inr (.inr (some p))), none, some (.inl v2), some (.inl v3), some (.inl v4), some (.inl v5), some (.inl v6), some (.inl v7)] [] h3 else zx zblk xs 103 283 [some (.inr (.inr (some p))), none, some (.inl v2), some (.inl v3), some (.inl v4), some (.inl v5), some (.inl v6), some (.inl v7)] [.inl 1] h3)))))) := (zx_unfold zblk xs 103 251 _ rfl _ _ _).trans rfl
theorem e_103_282 (xs : List Int) (p : Nat) (v2 : Int) (v3 : Int) (v4 : Int) (v5 : Int) (v6 : Int) (v7 : Int) (h : zH) : zx zblk xs 103 282 [some (.inr (.inr (some p))), none, some (.inl v2), some (.inl v3), some (.inl v4), some (.inl v5), some (.inl v6), some (.inl v7)] [] h = zx zblk xs 103 283 [some (.inr (.inr (some p))), none, some (.inl v2), some (.inl v3), some (.inl v4), some (.inl v5), some (.inl v6), some (.inl v7)] [.inl 0] h := (zx_unfold zblk xs 103 282 _ rfl _ _ _).trans rfl
theorem e_103_283 (xs : List Int) (p : Nat) (v2 : Int) (v3 : Int) (v4 : Int) (v5 : Int) (v6 : Int) (v7 : Int) (s0 : Int) (h : zH) : zx zblk xs 103 283 [some (.inr (.inr (some p))), none, some (.inl v2), some (.inl v3), some (.inl v4), some (.inl v5), some (.inl v6), some (.inl v7)] [.inl s0] h = (if zw v3 ≠ 0 then zx zblk xs 103 294 [some (.inr (.inr (some p))), none, some (.inl v2), none, some (.inl v4), some (.inl v5), some (.inl v6), some (.inl v7)] [] h else (if zw s0 = 0 then zx zblk xs 103 298 [some (.inr (.inr (some p))), none, some (.inl v2), none, some (.inl v4), some (.inl v5), some (.inl v6), some (.inl v7)] [] h else zx zblk xs 103 294 [some (.inr (.inr (some p))), none, some (.inl v2), none, some (.inl v4), some (.inl v5), some (.inl v6), some (.inl v7)] [] h)) := (zx_unfold zblk xs 103 283 _ rfl _ _ _).trans rfl
theorem e_103_294 (xs : List Int) (p : Nat) (v2 : Int) (v4 : Int) (v5 : Int) (v6 : Int) (v7 : Int) (h : zH) : zx zblk xs 103 294 [some (.inr (.inr (some p))), none, some (.inl v2), none, some (.inl v4), some (.inl v5), some (.inl v6), some (.inl v7)] [] h = zx zblk xs 103 299 [some (.inr (.inr (some p))), none, some (.inl v2), none, some (.inl v4), some (.inl v5), some (.inl v6), some (.inl v7)] [.inl 1] h := (zx_unfold zblk xs 103 294 _ rfl _ _ _).trans rfl
theorem e_103_298 (xs : List Int) (p : Nat) (v2 : Int) (v4 : Int) (v5 : Int) (v6 : Int) (v7 : Int) (h : zH) : zx zblk xs 103 298 [some (.inr (.inr (some p))), none, some (.inl v2), none, some (.inl v4), some (.inl v5), some (.inl v6), some (.inl v7)] [] h = zx zblk xs 103 299 [some (.inr (.inr (some p))), none, some (.inl v2), none, some (.inl v4), some (.inl v5), some (.inl v6), some (.inl v7)] [.inl 0] h := (zx_unfold zblk xs 103 298 _ rfl _ _ _).trans rfl
theorem e_103_299 (xs : List Int) (p : Nat) (v2 : Int) (v4 : Int) (v5 : Int) (v6 : Int) (v7 : Int) (s0 : Int) (h : zH) : zx zblk xs 103 299 [some (.inr (.inr (some p))), none, some (.inl v2), none, some (.inl v4), some (.inl v5), some (.inl v6), some (.inl v7)] [.inl s0] h = zx zblk xs 103 202 [some (.inr (.inr (some p))), none, some (.inl v2), some (.inl s0), some (.inl v4), some (.inl v5), some (.inl v6), some (.inl (v7 + 1))] [] h := (zx_unfold zblk xs 103 299 _ rfl _ _ _).trans rfl
theorem e_103_306 (xs : List Int) (p : Nat) (v2 : Int) (v3 : Int) (v4 : Int) (h : zH) : zx zblk xs 103 306 [some (.inr (.inr (some p))), none, some (.inl v2), some (.inl v3), some (.inl v4)] [] h = zx zblk xs 103 178 [some (.inr (.inr (some p))), none, some (.inl v2), some (.inl v3), some (.inl (v4 + 1))] [] h := (zx_unfold zblk xs 103 306 _ rfl _ _ _).trans rfl
theorem e_103_312 (xs : List Int) (p : Nat) (v2 : Int) (v3 : Int) (h : zH) : zx zblk xs 103 312 [some (.inr (.inr (some p))), none, some (.inl v2), some (.inl v3)] [] h = zx zblk xs 103 169 [some (.inr (.inr (some p))), none, some (.inl v2), some (.inl v3)] [] h := (zx_unfold zblk xs 103 312 _ rfl _ _ _).trans rfl
theorem e_103_315 (xs : List Int) (p : Nat) (h : zH) : zx zblk xs 103 315 [some (.inr (.inr (some p)))] [] h = (zgi h (some p) 7 16 fun f1 => (if zw f1 ≠ zw 1000000 then zx zblk xs 103 328 [some (.inr (.inr (some p)))] [] h else zx zblk xs 103 332 [] [.inl (-1)] h)) := (zx_unfold zblk xs 103 315 _ rfl _ _ _).trans rfl
theorem e_103_328 (xs : List Int) (p : Nat) (h : zH) : zx zblk xs 103 328 [some (.inr (.inr (some p)))] [] h = (zgi h (some p) 7 16 fun f1 => zx zblk xs 103 332 [] [.inl f1] h) := (zx_unfold zblk xs 103 328 _ rfl _ _ _).trans rfl
theorem e_103_332 (xs : List Int) (s0 : Int) (h : zH) : zx zblk xs 103 332 [] [.inl s0] h = some (some (.inl s0), h) := (zx_unfold zblk xs 103 332 _ rfl _ _ _).trans rfl
/-- MindReadersModel.twice(I)I -/
theorem e_104_0 (xs : List Int) (p : Nat) (v1 : Int) (h : zH) : zx zblk xs 104 0 [some (.inr (.inr (some p))), some (.inl v1)] [] h = (zck h (some p) 7 (zci (zx zblk xs 74 0 [some (.inr (.inr (some p))), some (.inl v1)] [] h) fun r2 h1 => (if zw r2 = 0 then zx zblk xs 104 16 [] [] h1 else (zck h1 (some p) 7 (zci (zx zblk xs 103 0 [some (.inr (.inr (some p))), some (.inl v1)] [] h1) fun r4 h3 => zx zblk xs 104 18 [] [.inl r4] h3))))) := (zx_unfold zblk xs 104 0 _ rfl _ _ _).trans rfl
theorem e_104_16 (xs : List Int)  (h : zH) : zx zblk xs 104 16 [] [] h = zx zblk xs 104 18 [] [.inl (-101)] h := (zx_unfold zblk xs 104 16 _ rfl _ _ _).trans rfl
theorem e_104_18 (xs : List Int) (s0 : Int) (h : zH) : zx zblk xs 104 18 [] [.inl s0] h = some (some (.inl s0), h) := (zx_unfold zblk xs 104 18 _ rfl _ _ _).trans rfl
/-- MindReadersModel.saidBy(I)I -/
theorem e_105_0 (xs : List Int) (p : Nat) (v1 : Int) (h : zH) : zx zblk xs 105 0 [some (.inr (.inr (some p))), some (.inl v1)] [] h = (zgr h (some p) 7 6 fun f1 => (zai xs h f1 v1 fun a2 => (zgi h (some p) 7 10 fun f3 => (if zw f3 ≤ zw a2 then zx zblk xs 105 22 [some (.inr (.inr (some p)))] [] h else (zgr h (some p) 7 6 fun f4 => (zai xs h f4 v1 fun a5 => zx zblk xs 105 26 [] [.inl a5] h)))))) := (zx_unfold zblk xs 105 0 _ rfl _ _ _).trans rfl
theorem e_105_22 (xs : List Int) (p : Nat) (h : zH) : zx zblk xs 105 22 [some (.inr (.inr (some p)))] [] h = (zgi h (some p) 7 10 fun f1 => zx zblk xs 105 26 [] [.inl f1] h) := (zx_unfold zblk xs 105 22 _ rfl _ _ _).trans rfl
theorem e_105_26 (xs : List Int) (s0 : Int) (h : zH) : zx zblk xs 105 26 [] [.inl s0] h = some (some (.inl s0), h) := (zx_unfold zblk xs 105 26 _ rfl _ _ _).trans rfl
/-- MindReadersModel.common(JJ)J -/
theorem e_106_0 (xs : List Int) (v0 : Int) (v2 : Int) (h : zH) : zx zblk xs 106 0 [some (.inr (.inl v0)), none, some (.inr (.inl v2))] [] h = zx zblk xs 106 6 [none, none, none, none, some (.inr (.inl v0)), none, some (.inr (.inl v2))] [] h := (zx_unfold zblk xs 106 0 _ rfl _ _ _).trans rfl
theorem e_106_6 (xs : List Int) (v4 : Int) (v6 : Int) (h : zH) : zx zblk xs 106 6 [none, none, none, none, some (.inr (.inl v4)), none, some (.inr (.inl v6))] [] h = (if zw (if zwl v4 < zwl 0 then -1 else if zwl v4 = zwl 0 then 0 else 1) = 0 then zx zblk xs 106 31 [none, none, none, none, none, none, some (.inr (.inl v6))] [] h else (if zwl v4 = 0 then none else zx zblk xs 106 6 [none, none, none, none, some (.inr (.inl ((zwl v6).tmod (zwl v4)))), none, some (.inr (.inl v4))] [] h)) := (zx_unfold zblk xs 106 6 _ rfl _ _ _).trans rfl
theorem e_106_31 (xs : List Int) (v6 : Int) (h : zH) : zx zblk xs 106 31 [none, none, none, none, none, none, some (.inr (.inl v6))] [] h = some (some (.inr (.inl v6)), h) := (zx_unfold zblk xs 106 31 _ rfl _ _ _).trans rfl
/-- MindReadersModel.term(JJI)J -/
theorem e_107_0 (xs : List Int) (v0 : Int) (v2 : Int) (v4 : Int) (h : zH) : zx zblk xs 107 0 [some (.inr (.inl v0)), none, some (.inr (.inl v2)), none, some (.inl v4)] [] h = (zcl (zx zblk xs 106 0 [some (.inr (.inl v0)), none, some (.inr (.inl v2)), none] [] h) fun r2 h1 => (if zw v4 ≠ 0 then zx zblk xs 107 19 [none, none, some (.inr (.inl v2)), none, none, some (.inr (.inl r2))] [] h1 else (if zwl r2 = 0 then none else zx zblk xs 107 23 [] [.inr (.inl ((zwl v0).tdiv (zwl r2)))] h1))) := (zx_unfold zblk xs 107 0 _ rfl _ _ _).trans rfl
theorem e_107_19 (xs : List Int) (v2 : Int) (v5 : Int) (h : zH) : zx zblk xs 107 19 [none, none, some (.inr (.inl v2)), none, none, some (.inr (.inl v5))] [] h = (if zwl v5 = 0 then none else zx zblk xs 107 23 [] [.inr (.inl ((zwl v2).tdiv (zwl v5)))] h) := (zx_unfold zblk xs 107 19 _ rfl _ _ _).trans rfl
theorem e_107_23 (xs : List Int) (s0 : Int) (h : zH) : zx zblk xs 107 23 [] [.inr (.inl s0)] h = some (some (.inr (.inl s0)), h) := (zx_unfold zblk xs 107 23 _ rfl _ _ _).trans rfl
/-- MindReadersModel.isPart(I)Z -/
theorem e_108_0 (xs : List Int) (v0 : Int) (h : zH) : zx zblk xs 108 0 [some (.inl v0)] [] h = (zci (zx zblk xs 67 0 [some (.inr (.inl (zw v0))), none, some (.inr (.inl 0)), none, some (.inr (.inl 1)), none] [] h) fun r2 h1 => (if r2 = 0 ∨ r2 = 1 then some (some (.inl r2), h1) else none)) := (zx_unfold zblk xs 108 0 _ rfl _ _ _).trans rfl
/-- MindReadersModel.weighed(I)I -/
theorem e_109_0 (xs : List Int) (p : Nat) (v1 : Int) (h : zH) : zx zblk xs 109 0 [some (.inr (.inr (some p))), some (.inl v1)] [] h = zx zblk xs 109 4 [some (.inr (.inr (some p))), some (.inl v1), some (.inl 0), some (.inl 0)] [] h := (zx_unfold zblk xs 109 0 _ rfl _ _ _).trans rfl
theorem e_109_4 (xs : List Int) (p : Nat) (v1 : Int) (v2 : Int) (v3 : Int) (h : zH) : zx zblk xs 109 4 [some (.inr (.inr (some p))), some (.inl v1), some (.inl v2), some (.inl v3)] [] h = (if zw v1 ≤ zw v3 then zx zblk xs 109 24 [none, none, some (.inl v2)] [] h else (zgr h (some p) 7 11 fun f1 => (zai xs h f1 v3 fun a2 => zx zblk xs 109 4 [some (.inr (.inr (some p))), some (.inl v1), some (.inl (v2 + a2)), some (.inl (v3 + 1))] [] h))) := (zx_unfold zblk xs 109 4 _ rfl _ _ _).trans rfl
theorem e_109_24 (xs : List Int) (v2 : Int) (h : zH) : zx zblk xs 109 24 [none, none, some (.inl v2)] [] h = some (some (.inl v2), h) := (zx_unfold zblk xs 109 24 _ rfl _ _ _).trans rfl
/-- MindReadersModel.mean(II)I -/
theorem e_110_0 (xs : List Int) (p : Nat) (v1 : Int) (v2 : Int) (h : zH) : zx zblk xs 110 0 [some (.inr (.inr (some p))), some (.inl v1), some (.inl v2)] [] h = (zck h (some p) 7 (zci (zx zblk xs 74 0 [some (.inr (.inr (some p))), some (.inl v1)] [] h) fun r2 h1 => (if zw r2 ≠ 0 then zx zblk xs 110 11 [some (.inr (.inr (some p))), some (.inl v1), some (.inl v2)] [] h1 else some (some (.inl (-101)), h1)))) := (zx_unfold zblk xs 110 0 _ rfl _ _ _).trans rfl
theorem e_110_11 (xs : List Int) (p : Nat) (v1 : Int) (v2 : Int) (h : zH) : zx zblk xs 110 11 [some (.inr (.inr (some p))), some (.inl v1), some (.inl v2)] [] h = (zci (zx zblk xs 108 0 [some (.inl v2)] [] h) fun r2 h1 => (if zw r2 ≠ 0 then zx zblk xs 110 21 [some (.inr (.inr (some p))), some (.inl v1), some (.inl v2)] [] h1 else some (some (.inl (-102)), h1))) := (zx_unfold zblk xs 110 11 _ rfl _ _ _).trans rfl
theorem e_110_21 (xs : List Int) (p : Nat) (v1 : Int) (v2 : Int) (h : zH) : zx zblk xs 110 21 [some (.inr (.inr (some p))), some (.inl v1), some (.inl v2)] [] h = (zck h (some p) 7 (zci (zx zblk xs 105 0 [some (.inr (.inr (some p))), some (.inl v1)] [] h) fun r2 h1 => (if zw r2 ≠ 0 then zx zblk xs 110 34 [some (.inr (.inr (some p))), some (.inl v1), some (.inl v2), some (.inl r2)] [] h1 else some (some (.inl (-103)), h1)))) := (zx_unfold zblk xs 110 21 _ rfl _ _ _).trans rfl
theorem e_110_34 (xs : List Int) (p : Nat) (v1 : Int) (v2 : Int) (v3 : Int) (h : zH) : zx zblk xs 110 34 [some (.inr (.inr (some p))), some (.inl v1), some (.inl v2), some (.inl v3)] [] h = zx zblk xs 110 40 [some (.inr (.inr (some p))), some (.inl v1), some (.inl v2), some (.inl v3), some (.inl 0), some (.inl 0)] [] h := (zx_unfold zblk xs 110 34 _ rfl _ _ _).trans rfl
theorem e_110_40 (xs : List Int) (p : Nat) (v1 : Int) (v2 : Int) (v3 : Int) (v4 : Int) (v5 : Int) (h : zH) : zx zblk xs 110 40 [some (.inr (.inr (some p))), some (.inl v1), some (.inl v2), some (.inl v3), some (.inl v4), some (.inl v5)] [] h = (if zw v3 ≤ zw v5 then zx zblk xs 110 72 [some (.inr (.inr (some p))), none, some (.inl v2), some (.inl v3), some (.inl v4)] [] h else (zgr h (some p) 7 11 fun f1 => (zai xs h f1 v5 fun a2 => (zck h (some p) 7 (zci (zx zblk xs 88 0 [some (.inr (.inr (some p))), some (.inl v1), some (.inl v5)] [] h) fun r4 h3 => zx zblk xs 110 40 [some (.inr (.inr (some p))), some (.inl v1), some (.inl v2), some (.inl v3), some (.inl (v4 + (a2 * r4))), some (.inl (v5 + 1))] [] h3))))) := (zx_unfold zblk xs 110 40 _ rfl _ _ _).trans rfl
theorem e_110_72 (xs : List Int) (p : Nat) (v2 : Int) (v3 : Int) (v4 : Int) (h : zH) : zx zblk xs 110 72 [some (.inr (.inr (some p))), none, some (.inl v2), some (.inl v3), some (.inl v4)] [] h = (zck h (some p) 7 (zci (zx zblk xs 109 0 [some (.inr (.inr (some p))), some (.inl v3)] [] h) fun r2 h1 => (zcl (zx zblk xs 107 0 [some (.inr (.inl (zw v4))), none, some (.inr (.inl (zw r2))), none, some (.inl v2)] [] h1) fun r4 h3 => some (some (.inl r4), h3)))) := (zx_unfold zblk xs 110 72 _ rfl _ _ _).trans rfl
/-- MindReadersModel.oddnessOf(I)I -/
theorem e_111_0 (xs : List Int) (p : Nat) (v1 : Int) (h : zH) : zx zblk xs 111 0 [some (.inr (.inr (some p))), some (.inl v1)] [] h = zx zblk xs 111 4 [some (.inr (.inr (some p))), some (.inl v1), some (.inl 0), some (.inl 0)] [] h := (zx_unfold zblk xs 111 0 _ rfl _ _ _).trans rfl
theorem e_111_4 (xs : List Int) (p : Nat) (v1 : Int) (v2 : Int) (v3 : Int) (h : zH) : zx zblk xs 111 4 [some (.inr (.inr (some p))), some (.inl v1), some (.inl v2), some (.inl v3)] [] h = (zck h (some p) 7 (zci (zx zblk xs 105 0 [some (.inr (.inr (some p))), some (.inl v1)] [] h) fun r2 h1 => (if zw r2 ≤ zw v3 then zx zblk xs 111 75 [none, none, some (.inl v2)] [] h1 else zx zblk xs 111 27 [some (.inr (.inr (some p))), some (.inl v1), some (.inl v2), some (.inl v3), some (.inl ((48 * v1) + (6 * v3))), some (.inl 1)] [] h1))) := (zx_unfold zblk xs 111 4 _ rfl _ _ _).trans rfl
theorem e_111_27 (xs : List Int) (p : Nat) (v1 : Int) (v2 : Int) (v3 : Int) (v4 : Int) (v5 : Int) (h : zH) : zx zblk xs 111 27 [some (.inr (.inr (some p))), some (.inl v1), some (.inl v2), some (.inl v3), some (.inl v4), some (.inl v5)] [] h = (zgr h (some p) 7 7 fun f1 => (zai xs h f1 v4 fun a2 => (if zw a2 < zw v5 then zx zblk xs 111 69 [some (.inr (.inr (some p))), some (.inl v1), some (.inl v2), some (.inl v3)] [] h else (zgr h (some p) 7 11 fun f3 => (zai xs h f3 v3 fun a4 => (zgr h (some p) 7 7 fun f5 => (zai xs h f5 (v4 + v5) fun a6 => (zck h (some p) 7 (zci (zx zblk xs 84 0 [some (.inr (.inr (some p))), some (.inl a6)] [] h) fun r8 h7 => zx zblk xs 111 27 [some (.inr (.inr (some p))), some (.inl v1), some (.inl (v2 + (a4 * r8))), some (.inl v3), some (.inl v4), some (.inl (v5 + 1))] [] h7))))))))) := (zx_unfold zblk xs 111 27 _ rfl _ _ _).trans rfl
theorem e_111_69 (xs : List Int) (p : Nat) (v1 : Int) (v2 : Int) (v3 : Int) (h : zH) : zx zblk xs 111 69 [some (.inr (.inr (some p))), some (.inl v1), some (.inl v2), some (.inl v3)] [] h = zx zblk xs 111 4 [some (.inr (.inr (some p))), some (.inl v1), some (.inl v2), some (.inl (v3 + 1))] [] h := (zx_unfold zblk xs 111 69 _ rfl _ _ _).trans rfl
theorem e_111_75 (xs : List Int) (v2 : Int) (h : zH) : zx zblk xs 111 75 [none, none, some (.inl v2)] [] h = some (some (.inl v2), h) := (zx_unfold zblk xs 111 75 _ rfl _ _ _).trans rfl
/-- MindReadersModel.oddness(I)I -/
theorem e_112_0 (xs : List Int) (p : Nat) (v1 : Int) (h : zH) : zx zblk xs 112 0 [some (.inr (.inr (some p))), some (.inl v1)] [] h = (zck h (some p) 7 (zci (zx zblk xs 74 0 [some (.inr (.inr (some p))), some (.inl v1)] [] h) fun r2 h1 => (if zw r2 = 0 then zx zblk xs 112 16 [] [] h1 else (zck h1 (some p) 7 (zci (zx zblk xs 111 0 [some (.inr (.inr (some p))), some (.inl v1)] [] h1) fun r4 h3 => zx zblk xs 112 18 [] [.inl r4] h3))))) := (zx_unfold zblk xs 112 0 _ rfl _ _ _).trans rfl
theorem e_112_16 (xs : List Int)  (h : zH) : zx zblk xs 112 16 [] [] h = zx zblk xs 112 18 [] [.inl (-101)] h := (zx_unfold zblk xs 112 16 _ rfl _ _ _).trans rfl
theorem e_112_18 (xs : List Int) (s0 : Int) (h : zH) : zx zblk xs 112 18 [] [.inl s0] h = some (some (.inl s0), h) := (zx_unfold zblk xs 112 18 _ rfl _ _ _).trans rfl
/-- MindReadersModel.placeOf(II)I -/
theorem e_113_0 (xs : List Int) (p : Nat) (v1 : Int) (v2 : Int) (h : zH) : zx zblk xs 113 0 [some (.inr (.inr (some p))), some (.inl v1), some (.inl v2)] [] h = zx zblk xs 113 5 [some (.inr (.inr (some p))), some (.inl v1), some (.inl v2), some (.inl 0), some (.inl 0)] [] h := (zx_unfold zblk xs 113 0 _ rfl _ _ _).trans rfl
theorem e_113_5 (xs : List Int) (p : Nat) (v1 : Int) (v2 : Int) (v3 : Int) (v4 : Int) (h : zH) : zx zblk xs 113 5 [some (.inr (.inr (some p))), some (.inl v1), some (.inl v2), some (.inl v3), some (.inl v4)] [] h = (if zw v2 ≤ zw v4 then zx zblk xs 113 63 [none, none, none, some (.inl v3)] [] h else (zgr h (some p) 7 11 fun f1 => (zai xs h f1 v4 fun a2 => (zgr h (some p) 7 11 fun f3 => (zai xs h f3 v1 fun a4 => (if zw a4 < zw a2 then zx zblk xs 113 50 [some (.inr (.inr (some p))), some (.inl v1), some (.inl v2), none, some (.inl v4)] [.inl v3] h else (zgr h (some p) 7 11 fun f5 => (zai xs h f5 v4 fun a6 => (zgr h (some p) 7 11 fun f7 => (zai xs h f7 v1 fun a8 => (if zw a6 ≠ zw a8 then zx zblk xs 113 54 [some (.inr (.inr (some p))), some (.inl v1), some (.inl v2), none, some (.inl v4)] [.inl v3] h else (if zw v1 ≤ zw v4 then zx zblk xs 113 54 [some (.inr (.inr (some p))), some (.inl v1), some (.inl v2), none, some (.inl v4)] [.inl v3] h else zx zblk xs 113 50 [some (.inr (.inr (some p))), some (.inl v1), some (.inl v2), none, some (.inl v4)] [.inl v3] h)))))))))))) := (zx_unfold zblk xs 113 5 _ rfl _ _ _).trans rfl
theorem e_113_50 (xs : List Int) (p : Nat) (v1 : Int) (v2 : Int) (v4 : Int) (s0 : Int) (h : zH) : zx zblk xs 113 50 [some (.inr (.inr (some p))), some (.inl v1), some (.inl v2), none, some (.inl v4)] [.inl s0] h = zx zblk xs 113 55 [some (.inr (.inr (some p))), some (.inl v1), some (.inl v2), none, some (.inl v4)] [.inl 1, .inl s0] h := (zx_unfold zblk xs 113 50 _ rfl _ _ _).trans rfl
theorem e_113_54 (xs : List Int) (p : Nat) (v1 : Int) (v2 : Int) (v4 : Int) (s0 : Int) (h : zH) : zx zblk xs 113 54 [some (.inr (.inr (some p))), some (.inl v1), some (.inl v2), none, some (.inl v4)] [.inl s0] h = zx zblk xs 113 55 [some (.inr (.inr (some p))), some (.inl v1), some (.inl v2), none, some (.inl v4)] [.inl 0, .inl s0] h := (zx_unfold zblk xs 113 54 _ rfl _ _ _).trans rfl
theorem e_113_55 (xs : List Int) (p : Nat) (v1 : Int) (v2 : Int) (v4 : Int) (s0 : Int) (s1 : Int) (h : zH) : zx zblk xs 113 55 [some (.inr (.inr (some p))), some (.inl v1), some (.inl v2), none, some (.inl v4)] [.inl s1, .inl s0] h = zx zblk xs 113 5 [some (.inr (.inr (some p))), some (.inl v1), some (.inl v2), some (.inl (s0 + s1)), some (.inl (v4 + 1))] [] h := (zx_unfold zblk xs 113 55 _ rfl _ _ _).trans rfl
theorem e_113_63 (xs : List Int) (v3 : Int) (h : zH) : zx zblk xs 113 63 [none, none, none, some (.inl v3)] [] h = some (some (.inl v3), h) := (zx_unfold zblk xs 113 63 _ rfl _ _ _).trans rfl
/-- MindReadersModel.speechAt(III)I -/
theorem e_114_0 (xs : List Int) (p : Nat) (v1 : Int) (v2 : Int) (v3 : Int) (h : zH) : zx zblk xs 114 0 [some (.inr (.inr (some p))), some (.inl v1), some (.inl v2), some (.inl v3)] [] h = zx zblk xs 114 6 [some (.inr (.inr (some p))), some (.inl v1), some (.inl v2), some (.inl v3), some (.inl (-1)), some (.inl 0)] [] h := (zx_unfold zblk xs 114 0 _ rfl _ _ _).trans rfl
theorem e_114_6 (xs : List Int) (p : Nat) (v1 : Int) (v2 : Int) (v3 : Int) (v4 : Int) (v5 : Int) (h : zH) : zx zblk xs 114 6 [some (.inr (.inr (some p))), some (.inl v1), some (.inl v2), some (.inl v3), some (.inl v4), some (.inl v5)] [] h = (if zw v3 ≤ zw v5 then zx zblk xs 114 95 [none, none, none, none, some (.inl v4)] [] h else zx zblk xs 114 18 [some (.inr (.inr (some p))), some (.inl v1), some (.inl v2), some (.inl v3), some (.inl v4), some (.inl v5), some (.inl 0), some (.inl 0)] [] h) := (zx_unfold zblk xs 114 6 _ rfl _ _ _).trans rfl
theorem e_114_18 (xs : List Int) (p : Nat) (v1 : Int) (v2 : Int) (v3 : Int) (v4 : Int) (v5 : Int) (v6 : Int) (v7 : Int) (h : zH) : zx zblk xs 114 18 [some (.inr (.inr (some p))), some (.inl v1), some (.inl v2), some (.inl v3), some (.inl v4), some (.inl v5), some (.inl v6), some (.inl v7)] [] h = (if zw v3 ≤ zw v7 then zx zblk xs 114 74 [some (.inr (.inr (some p))), some (.inl v1), some (.inl v2), some (.inl v3), some (.inl v4), some (.inl v5), some (.inl v6)] [] h else (zck h (some p) 7 (zci (zx zblk xs 88 0 [some (.inr (.inr (some p))), some (.inl v1), some (.inl v7)] [] h) fun r2 h1 => (zck h1 (some p) 7 (zci (zx zblk xs 88 0 [some (.inr (.inr (some p))), some (.inl v1), some (.inl v5)] [] h1) fun r4 h3 => (if zw (r2 - r4) < 0 then zx zblk xs 114 60 [some (.inr (.inr (some p))), some (.inl v1), some (.inl v2), some (.inl v3), some (.inl v4), some (.inl v5), none, some (.inl v7)] [.inl v6] h3 else (if zw (r2 - r4) ≠ 0 then zx zblk xs 114 64 [some (.inr (.inr (some p))), some (.inl v1), some (.inl v2), some (.inl v3), some (.inl v4), some (.inl v5), none, some (.inl v7)] [.inl v6] h3 else (if zw v5 ≤ zw v7 then zx zblk xs 114 64 [some (.inr (.inr (some p))), some (.inl v1), some (.inl v2), some (.inl v3), some (.inl v4), some (.inl v5), none, some (.inl v7)] [.inl v6] h3 else zx zblk xs 114 60 [some (.inr (.inr (some p))), some (.inl v1), some (.inl v2), some (.inl v3), some (.inl v4), some (.inl v5), none, some (.inl v7)] [.inl v6] h3)))))))) := (zx_unfold zblk xs 114 18 _ rfl _ _ _).trans rfl
theorem e_114_60 (xs : List Int) (p : Nat) (v1 : Int) (v2 : Int) (v3 : Int) (v4 : Int) (v5 : Int) (v7 : Int) (s0 : Int) (h : zH) : zx zblk xs 114 60 [some (.inr (.inr (some p))), some (.inl v1), some (.inl v2), some (.inl v3), some (.inl v4), some (.inl v5), none, some (.inl v7)] [.inl s0] h = zx zblk xs 114 65 [some (.inr (.inr (some p))), some (.inl v1), some (.inl v2), some (.inl v3), some (.inl v4), some (.inl v5), none, some (.inl v7)] [.inl 1, .inl s0] h := (zx_unfold zblk xs 114 60 _ rfl _ _ _).trans rfl
theorem e_114_64 (xs : List Int) (p : Nat) (v1 : Int) (v2 : Int) (v3 : Int) (v4 : Int) (v5 : Int) (v7 : Int) (s0 : Int) (h : zH) : zx zblk xs 114 64 [some (.inr (.inr (some p))), some (.inl v1), some (.inl v2), some (.inl v3), some (.inl v4), some (.inl v5), none, some (.inl v7)] [.inl s0] h = zx zblk xs 114 65 [some (.inr (.inr (some p))), some (.inl v1), some (.inl v2), some (.inl v3), some (.inl v4), some (.inl v5), none, some (.inl v7)] [.inl 0, .inl s0] h := (zx_unfold zblk xs 114 64 _ rfl _ _ _).trans rfl
theorem e_114_65 (xs : List Int) (p : Nat) (v1 : Int) (v2 : Int) (v3 : Int) (v4 : Int) (v5 : Int) (v7 : Int) (s0 : Int) (s1 : Int) (h : zH) : zx zblk xs 114 65 [some (.inr (.inr (some p))), some (.inl v1), some (.inl v2), some (.inl v3), some (.inl v4), some (.inl v5), none, some (.inl v7)] [.inl s1, .inl s0] h = zx zblk xs 114 18 [some (.inr (.inr (some p))), some (.inl v1), some (.inl v2), some (.inl v3), some (.inl v4), some (.inl v5), some (.inl (s0 + s1)), some (.inl (v7 + 1))] [] h := (zx_unfold zblk xs 114 65 _ rfl _ _ _).trans rfl
theorem e_114_74 (xs : List Int) (p : Nat) (v1 : Int) (v2 : Int) (v3 : Int) (v4 : Int) (v5 : Int) (v6 : Int) (h : zH) : zx zblk xs 114 74 [some (.inr (.inr (some p))), some (.inl v1), some (.inl v2), some (.inl v3), some (.inl v4), some (.inl v5), some (.inl v6)] [] h = (if zw v6 ≠ zw v2 then zx zblk xs 114 85 [some (.inr (.inr (some p))), some (.inl v1), some (.inl v2), some (.inl v3), some (.inl v4), some (.inl v5)] [] h else zx zblk xs 114 87 [some (.inr (.inr (some p))), some (.inl v1), some (.inl v2), some (.inl v3), none, some (.inl v5)] [.inl v5] h) := (zx_unfold zblk xs 114 74 _ rfl _ _ _).trans rfl
theorem e_114_85 (xs : List Int) (p : Nat) (v1 : Int) (v2 : Int) (v3 : Int) (v4 : Int) (v5 : Int) (h : zH) : zx zblk xs 114 85 [some (.inr (.inr (some p))), some (.inl v1), some (.inl v2), some (.inl v3), some (.inl v4), some (.inl v5)] [] h = zx zblk xs 114 87 [some (.inr (.inr (some p))), some (.inl v1), some (.inl v2), some (.inl v3), none, some (.inl v5)] [.inl v4] h := (zx_unfold zblk xs 114 85 _ rfl _ _ _).trans rfl
theorem e_114_87 (xs : List Int) (p : Nat) (v1 : Int) (v2 : Int) (v3 : Int) (v5 : Int) (s0 : Int) (h : zH) : zx zblk xs 114 87 [some (.inr (.inr (some p))), some (.inl v1), some (.inl v2), some (.inl v3), none, some (.inl v5)] [.inl s0] h = zx zblk xs 114 6 [some (.inr (.inr (some p))), some (.inl v1), some (.inl v2), some (.inl v3), some (.inl s0), some (.inl (v5 + 1))] [] h := (zx_unfold zblk xs 114 87 _ rfl _ _ _).trans rfl
theorem e_114_95 (xs : List Int) (v4 : Int) (h : zH) : zx zblk xs 114 95 [none, none, none, none, some (.inl v4)] [] h = some (some (.inl v4), h) := (zx_unfold zblk xs 114 95 _ rfl _ _ _).trans rfl
/-- MindReadersModel.dealt(II)I -/
theorem e_115_0 (xs : List Int) (p : Nat) (v1 : Int) (v2 : Int) (h : zH) : zx zblk xs 115 0 [some (.inr (.inr (some p))), some (.inl v1), some (.inl v2)] [] h = (zck h (some p) 7 (zci (zx zblk xs 74 0 [some (.inr (.inr (some p))), some (.inl v1)] [] h) fun r2 h1 => (if zw r2 ≠ 0 then zx zblk xs 115 11 [some (.inr (.inr (some p))), some (.inl v1), some (.inl v2)] [] h1 else some (some (.inl (-101)), h1)))) := (zx_unfold zblk xs 115 0 _ rfl _ _ _).trans rfl
theorem e_115_11 (xs : List Int) (p : Nat) (v1 : Int) (v2 : Int) (h : zH) : zx zblk xs 115 11 [some (.inr (.inr (some p))), some (.inl v1), some (.inl v2)] [] h = (zci (zx zblk xs 108 0 [some (.inl v2)] [] h) fun r2 h1 => (if zw r2 ≠ 0 then zx zblk xs 115 35 [some (.inr (.inr (some p))), some (.inl v1), some (.inl v2)] [] h1 else (zci (zx zblk xs 67 0 [some (.inr (.inl (zw v2))), none, some (.inr (.inl 10)), none, some (.inr (.inl 17)), none] [] h1) fun r4 h3 => (if zw r4 ≠ 0 then zx zblk xs 115 35 [some (.inr (.inr (some p))), some (.inl v1), some (.inl v2)] [] h3 else some (some (.inl (-102)), h3))))) := (zx_unfold zblk xs 115 11 _ rfl _ _ _).trans rfl
theorem e_115_35 (xs : List Int) (p : Nat) (v1 : Int) (v2 : Int) (h : zH) : zx zblk xs 115 35 [some (.inr (.inr (some p))), some (.inl v1), some (.inl v2)] [] h = (zck h (some p) 7 (zci (zx zblk xs 105 0 [some (.inr (.inr (some p))), some (.inl v1)] [] h) fun r2 h1 => (if zw r2 ≠ 0 then zx zblk xs 115 48 [some (.inr (.inr (some p))), some (.inl v1), some (.inl v2), some (.inl r2)] [] h1 else some (some (.inl (-103)), h1)))) := (zx_unfold zblk xs 115 35 _ rfl _ _ _).trans rfl
theorem e_115_48 (xs : List Int) (p : Nat) (v1 : Int) (v2 : Int) (v3 : Int) (h : zH) : zx zblk xs 115 48 [some (.inr (.inr (some p))), some (.inl v1), some (.inl v2), some (.inl v3)] [] h = (if zw v2 ≤ zw 1 then zx zblk xs 115 81 [some (.inr (.inr (some p))), some (.inl v1), some (.inl v2), some (.inl v3)] [] h else (if zw v3 ≤ zw (v2 - 10) then zx zblk xs 115 79 [] [] h else (zck h (some p) 7 (zci (zx zblk xs 113 0 [some (.inr (.inr (some p))), some (.inl (v2 - 10)), some (.inl v3)] [] h) fun r2 h1 => (zck h1 (some p) 7 (zci (zx zblk xs 114 0 [some (.inr (.inr (some p))), some (.inl v1), some (.inl r2), some (.inl v3)] [] h1) fun r4 h3 => zx zblk xs 115 80 [] [.inl r4] h3)))))) := (zx_unfold zblk xs 115 48 _ rfl _ _ _).trans rfl
theorem e_115_79 (xs : List Int)  (h : zH) : zx zblk xs 115 79 [] [] h = zx zblk xs 115 80 [] [.inl (-1)] h := (zx_unfold zblk xs 115 79 _ rfl _ _ _).trans rfl
theorem e_115_80 (xs : List Int) (s0 : Int) (h : zH) : zx zblk xs 115 80 [] [.inl s0] h = some (some (.inl s0), h) := (zx_unfold zblk xs 115 80 _ rfl _ _ _).trans rfl
theorem e_115_81 (xs : List Int) (p : Nat) (v1 : Int) (v2 : Int) (v3 : Int) (h : zH) : zx zblk xs 115 81 [some (.inr (.inr (some p))), some (.inl v1), some (.inl v2), some (.inl v3)] [] h = zx zblk xs 115 87 [some (.inr (.inr (some p))), some (.inl v1), some (.inl v2), some (.inl v3), some (.inl 0), some (.inl 0)] [] h := (zx_unfold zblk xs 115 81 _ rfl _ _ _).trans rfl
theorem e_115_87 (xs : List Int) (p : Nat) (v1 : Int) (v2 : Int) (v3 : Int) (v4 : Int) (v5 : Int) (h : zH) : zx zblk xs 115 87 [some (.inr (.inr (some p))), some (.inl v1), some (.inl v2), some (.inl v3), some (.inl v4), some (.inl v5)] [] h = (if zw v3 ≤ zw v5 then zx zblk xs 115 130 [some (.inr (.inr (some p))), none, some (.inl v2), some (.inl v3), some (.inl v4)] [] h else (zgr h (some p) 7 11 fun f1 => (zai xs h f1 v5 fun a2 => (zck h (some p) 7 (zci (zx zblk xs 113 0 [some (.inr (.inr (some p))), some (.inl v5), some (.inl v3)] [] h) fun r4 h3 => (zck h3 (some p) 7 (zci (zx zblk xs 114 0 [some (.inr (.inr (some p))), some (.inl v1), some (.inl r4), some (.inl v3)] [] h3) fun r6 h5 => (zck h5 (some p) 7 (zci (zx zblk xs 88 0 [some (.inr (.inr (some p))), some (.inl v1), some (.inl r6)] [] h5) fun r8 h7 => zx zblk xs 115 87 [some (.inr (.inr (some p))), some (.inl v1), some (.inl v2), some (.inl v3), some (.inl (v4 + (a2 * r8))), some (.inl (v5 + 1))] [] h7))))))))) := (zx_unfold zblk xs 115 87 _ rfl _ _ _).trans rfl
theorem e_115_130 (xs : List Int) (p : Nat) (v2 : Int) (v3 : Int) (v4 : Int) (h : zH) : zx zblk xs 115 130 [some (.inr (.inr (some p))), none, some (.inl v2), some (.inl v3), some (.inl v4)] [] h = (zck h (some p) 7 (zci (zx zblk xs 109 0 [some (.inr (.inr (some p))), some (.inl v3)] [] h) fun r2 h1 => (zcl (zx zblk xs 107 0 [some (.inr (.inl (zw v4))), none, some (.inr (.inl (zw r2))), none, some (.inl v2)] [] h1) fun r4 h3 => some (some (.inl r4), h3)))) := (zx_unfold zblk xs 115 130 _ rfl _ _ _).trans rfl
/-- MindReadersModel.takeLeast(I)I -/
theorem e_116_0 (xs : List Int) (p : Nat) (v1 : Int) (h : zH) : zx zblk xs 116 0 [some (.inr (.inr (some p))), some (.inl v1)] [] h = zx zblk xs 116 4 [some (.inr (.inr (some p))), some (.inl v1), some (.inl (-1)), some (.inl 0)] [] h := (zx_unfold zblk xs 116 0 _ rfl _ _ _).trans rfl
theorem e_116_4 (xs : List Int) (p : Nat) (v1 : Int) (v2 : Int) (v3 : Int) (h : zH) : zx zblk xs 116 4 [some (.inr (.inr (some p))), some (.inl v1), some (.inl v2), some (.inl v3)] [] h = (if zw v1 ≤ zw v3 then zx zblk xs 116 50 [some (.inr (.inr (some p))), none, some (.inl v2)] [] h else (zgr h (some p) 7 17 fun f1 => (zai xs h f1 v3 fun a2 => (if zw a2 < 0 then zx zblk xs 116 42 [some (.inr (.inr (some p))), some (.inl v1), some (.inl v2), some (.inl v3)] [] h else (if zw v2 = zw (-1) then zx zblk xs 116 38 [some (.inr (.inr (some p))), some (.inl v1), none, some (.inl v3)] [] h else (zgr h (some p) 7 17 fun f3 => (zai xs h f3 v3 fun a4 => (zgr h (some p) 7 17 fun f5 => (zai xs h f5 v2 fun a6 => (if zw a6 ≤ zw a4 then zx zblk xs 116 42 [some (.inr (.inr (some p))), some (.inl v1), some (.inl v2), some (.inl v3)] [] h else zx zblk xs 116 38 [some (.inr (.inr (some p))), some (.inl v1), none, some (.inl v3)] [] h)))))))))) := (zx_unfold zblk xs 116 4 _ rfl _ _ _).trans rfl
theorem e_116_38 (xs : List Int) (p : Nat) (v1 : Int) (v3 : Int) (h : zH) : zx zblk xs 116 38 [some (.inr (.inr (some p))), some (.inl v1), none, some (.inl v3)] [] h = zx zblk xs 116 43 [some (.inr (.inr (some p))), some (.inl v1), none, some (.inl v3)] [.inl v3] h := (zx_unfold zblk xs 116 38 _ rfl _ _ _).trans rfl
theorem e_116_42 (xs : List Int) (p : Nat) (v1 : Int) (v2 : Int) (v3 : Int) (h : zH) : zx zblk xs 116 42 [some (.inr (.inr (some p))), some (.inl v1), some (.inl v2), some (.inl v3)] [] h = zx zblk xs 116 43 [some (.inr (.inr (some p))), some (.inl v1), none, some (.inl v3)] [.inl v2] h := (zx_unfold zblk xs 116 42 _ rfl _ _ _).trans rfl
theorem e_116_43 (xs : List Int) (p : Nat) (v1 : Int) (v3 : Int) (s0 : Int) (h : zH) : zx zblk xs 116 43 [some (.inr (.inr (some p))), some (.inl v1), none, some (.inl v3)] [.inl s0] h = zx zblk xs 116 4 [some (.inr (.inr (some p))), some (.inl v1), some (.inl s0), some (.inl (v3 + 1))] [] h := (zx_unfold zblk xs 116 43 _ rfl _ _ _).trans rfl
theorem e_116_50 (xs : List Int) (p : Nat) (v2 : Int) (h : zH) : zx zblk xs 116 50 [some (.inr (.inr (some p))), none, some (.inl v2)] [] h = (zgr h (some p) 7 17 fun f1 => (zai xs h f1 v2 fun a2 => (zgr h (some p) 7 17 fun f3 => (zst h f3 100 v2 (.inl (-1)) fun h4 => some (some (.inl a2), h4))))) := (zx_unfold zblk xs 116 50 _ rfl _ _ _).trans rfl
/-- MindReadersModel.shortNow(I)I -/
theorem e_117_0 (xs : List Int) (p : Nat) (v1 : Int) (h : zH) : zx zblk xs 117 0 [some (.inr (.inr (some p))), some (.inl v1)] [] h = (zgi h (some p) 7 10 fun f1 => zx zblk xs 117 5 [some (.inr (.inr (some p))), some (.inl v1), some (.inl f1)] [] h) := (zx_unfold zblk xs 117 0 _ rfl _ _ _).trans rfl
theorem e_117_5 (xs : List Int) (p : Nat) (v1 : Int) (v2 : Int) (h : zH) : zx zblk xs 117 5 [some (.inr (.inr (some p))), some (.inl v1), some (.inl v2)] [] h = (if zw (v1 - 1) = 0 then none else (if zw ((zw (v2 - 1)).tmod (zw (v1 - 1))) ≤ 0 then zx zblk xs 117 21 [some (.inr (.inr (some p))), some (.inl v1), some (.inl v2)] [] h else zx zblk xs 117 5 [some (.inr (.inr (some p))), some (.inl v1), some (.inl (v2 + 1))] [] h)) := (zx_unfold zblk xs 117 5 _ rfl _ _ _).trans rfl
theorem e_117_21 (xs : List Int) (p : Nat) (v1 : Int) (v2 : Int) (h : zH) : zx zblk xs 117 21 [some (.inr (.inr (some p))), some (.inl v1), some (.inl v2)] [] h = zx zblk xs 117 23 [some (.inr (.inr (some p))), some (.inl v1), some (.inl v2), some (.inl 0)] [] h := (zx_unfold zblk xs 117 21 _ rfl _ _ _).trans rfl
theorem e_117_23 (xs : List Int) (p : Nat) (v1 : Int) (v2 : Int) (v3 : Int) (h : zH) : zx zblk xs 117 23 [some (.inr (.inr (some p))), some (.inl v1), some (.inl v2), some (.inl v3)] [] h = (if zw v2 ≤ zw v3 then zx zblk xs 117 58 [some (.inr (.inr (some p))), some (.inl v1), some (.inl v2)] [] h else (zgr h (some p) 7 17 fun f1 => (zgi h (some p) 7 10 fun f2 => (if zw f2 ≤ zw v3 then zx zblk xs 117 50 [some (.inr (.inr (some p))), some (.inl v1), some (.inl v2), some (.inl v3)] [.inl v3, .inr (.inr f1)] h else (zgr h (some p) 7 11 fun f3 => (zai xs h f3 v3 fun a4 => zx zblk xs 117 51 [some (.inr (.inr (some p))), some (.inl v1), some (.inl v2), some (.inl v3)] [.inl a4, .inl v3, .inr (.inr f1)] h)))))) := (zx_unfold zblk xs 117 23 _ rfl _ _ _).trans rfl
theorem e_117_50 (xs : List Int) (p : Nat) (v1 : Int) (v2 : Int) (v3 : Int) (s0 : Option Nat) (s1 : Int) (h : zH) : zx zblk xs 117 50 [some (.inr (.inr (some p))), some (.inl v1), some (.inl v2), some (.inl v3)] [.inl s1, .inr (.inr s0)] h = zx zblk xs 117 51 [some (.inr (.inr (some p))), some (.inl v1), some (.inl v2), some (.inl v3)] [.inl 0, .inl s1, .inr (.inr s0)] h := (zx_unfold zblk xs 117 50 _ rfl _ _ _).trans rfl
theorem e_117_51 (xs : List Int) (p : Nat) (v1 : Int) (v2 : Int) (v3 : Int) (s0 : Option Nat) (s1 : Int) (s2 : Int) (h : zH) : zx zblk xs 117 51 [some (.inr (.inr (some p))), some (.inl v1), some (.inl v2), some (.inl v3)] [.inl s2, .inl s1, .inr (.inr s0)] h = (zst h s0 100 s1 (.inl s2) fun h1 => zx zblk xs 117 23 [some (.inr (.inr (some p))), some (.inl v1), some (.inl v2), some (.inl (v3 + 1))] [] h1) := (zx_unfold zblk xs 117 51 _ rfl _ _ _).trans rfl
theorem e_117_58 (xs : List Int) (p : Nat) (v1 : Int) (v2 : Int) (h : zH) : zx zblk xs 117 58 [some (.inr (.inr (some p))), some (.inl v1), some (.inl v2)] [] h = zx zblk xs 117 63 [some (.inr (.inr (some p))), some (.inl v1), some (.inl v2), some (.inl 0), some (.inl v2)] [] h := (zx_unfold zblk xs 117 58 _ rfl _ _ _).trans rfl
theorem e_117_63 (xs : List Int) (p : Nat) (v1 : Int) (v2 : Int) (v3 : Int) (v4 : Int) (h : zH) : zx zblk xs 117 63 [some (.inr (.inr (some p))), some (.inl v1), some (.inl v2), some (.inl v3), some (.inl v4)] [] h = (if zw v4 ≤ zw 1 then zx zblk xs 117 141 [none, none, none, some (.inl v3)] [] h else zx zblk xs 117 75 [some (.inr (.inr (some p))), some (.inl v1), some (.inl v2), some (.inl v3), some (.inl v4), some (.inl 0), some (.inl 0)] [] h) := (zx_unfold zblk xs 117 63 _ rfl _ _ _).trans rfl
theorem e_117_75 (xs : List Int) (p : Nat) (v1 : Int) (v2 : Int) (v3 : Int) (v4 : Int) (v5 : Int) (v6 : Int) (h : zH) : zx zblk xs 117 75 [some (.inr (.inr (some p))), some (.inl v1), some (.inl v2), some (.inl v3), some (.inl v4), some (.inl v5), some (.inl v6)] [] h = (if zw v1 ≤ zw v6 then zx zblk xs 117 97 [some (.inr (.inr (some p))), some (.inl v1), some (.inl v2), some (.inl v3), some (.inl v4), some (.inl v5)] [] h else (zck h (some p) 7 (zci (zx zblk xs 116 0 [some (.inr (.inr (some p))), some (.inl v2)] [] h) fun r2 h1 => zx zblk xs 117 75 [some (.inr (.inr (some p))), some (.inl v1), some (.inl v2), some (.inl v3), some (.inl v4), some (.inl (v5 + r2)), some (.inl (v6 + 1))] [] h1))) := (zx_unfold zblk xs 117 75 _ rfl _ _ _).trans rfl
theorem e_117_97 (xs : List Int) (p : Nat) (v1 : Int) (v2 : Int) (v3 : Int) (v4 : Int) (v5 : Int) (h : zH) : zx zblk xs 117 97 [some (.inr (.inr (some p))), some (.inl v1), some (.inl v2), some (.inl v3), some (.inl v4), some (.inl v5)] [] h = zx zblk xs 117 100 [some (.inr (.inr (some p))), some (.inl v1), some (.inl v2), some (.inl v3), some (.inl v4), some (.inl v5), some (.inl 0)] [] h := (zx_unfold zblk xs 117 97 _ rfl _ _ _).trans rfl
theorem e_117_100 (xs : List Int) (p : Nat) (v1 : Int) (v2 : Int) (v3 : Int) (v4 : Int) (v5 : Int) (v6 : Int) (h : zH) : zx zblk xs 117 100 [some (.inr (.inr (some p))), some (.inl v1), some (.inl v2), some (.inl v3), some (.inl v4), some (.inl v5), some (.inl v6)] [] h = (zgr h (some p) 7 17 fun f1 => (zai xs h f1 v6 fun a2 => (if zw a2 < 0 then zx zblk xs 117 116 [some (.inr (.inr (some p))), some (.inl v1), some (.inl v2), some (.inl v3), some (.inl v4), some (.inl v5), some (.inl v6)] [] h else zx zblk xs 117 100 [some (.inr (.inr (some p))), some (.inl v1), some (.inl v2), some (.inl v3), some (.inl v4), some (.inl v5), some (.inl (v6 + 1))] [] h))) := (zx_unfold zblk xs 117 100 _ rfl _ _ _).trans rfl
theorem e_117_116 (xs : List Int) (p : Nat) (v1 : Int) (v2 : Int) (v3 : Int) (v4 : Int) (v5 : Int) (v6 : Int) (h : zH) : zx zblk xs 117 116 [some (.inr (.inr (some p))), some (.inl v1), some (.inl v2), some (.inl v3), some (.inl v4), some (.inl v5), some (.inl v6)] [] h = (zgr h (some p) 7 17 fun f1 => (zst h f1 100 v6 (.inl v5) fun h2 => zx zblk xs 117 63 [some (.inr (.inr (some p))), some (.inl v1), some (.inl v2), some (.inl (v3 + v5)), some (.inl (v4 - (v1 - 1)))] [] h2)) := (zx_unfold zblk xs 117 116 _ rfl _ _ _).trans rfl
theorem e_117_141 (xs : List Int) (v3 : Int) (h : zH) : zx zblk xs 117 141 [none, none, none, some (.inl v3)] [] h = some (some (.inl v3), h) := (zx_unfold zblk xs 117 141 _ rfl _ _ _).trans rfl
/-- MindReadersModel.shortest(II)I -/
theorem e_118_0 (xs : List Int) (p : Nat) (v1 : Int) (v2 : Int) (h : zH) : zx zblk xs 118 0 [some (.inr (.inr (some p))), some (.inl v1), some (.inl v2)] [] h = (zci (zx zblk xs 67 0 [some (.inr (.inl (zw v1))), none, some (.inr (.inl 2)), none, some (.inr (.inl 8)), none] [] h) fun r2 h1 => (if zw r2 = 0 then zx zblk xs 118 21 [] [] h1 else (zci (zx zblk xs 108 0 [some (.inl v2)] [] h1) fun r4 h3 => (if zw r4 ≠ 0 then zx zblk xs 118 24 [some (.inr (.inr (some p))), some (.inl v1), some (.inl v2)] [] h3 else zx zblk xs 118 21 [] [] h3)))) := (zx_unfold zblk xs 118 0 _ rfl _ _ _).trans rfl
theorem e_118_21 (xs : List Int)  (h : zH) : zx zblk xs 118 21 [] [] h = some (some (.inl (-102)), h) := (zx_unfold zblk xs 118 21 _ rfl _ _ _).trans rfl
theorem e_118_24 (xs : List Int) (p : Nat) (v1 : Int) (v2 : Int) (h : zH) : zx zblk xs 118 24 [some (.inr (.inr (some p))), some (.inl v1), some (.inl v2)] [] h = (zgi h (some p) 7 10 fun f1 => (if zw f1 ≠ 0 then zx zblk xs 118 34 [some (.inr (.inr (some p))), some (.inl v1), some (.inl v2)] [] h else some (some (.inl (-103)), h))) := (zx_unfold zblk xs 118 24 _ rfl _ _ _).trans rfl
theorem e_118_34 (xs : List Int) (p : Nat) (v1 : Int) (v2 : Int) (h : zH) : zx zblk xs 118 34 [some (.inr (.inr (some p))), some (.inl v1), some (.inl v2)] [] h = (zck h (some p) 7 (zci (zx zblk xs 117 0 [some (.inr (.inr (some p))), some (.inl v1)] [] h) fun r2 h1 => (zgi h1 (some p) 7 10 fun f3 => (zck h1 (some p) 7 (zci (zx zblk xs 109 0 [some (.inr (.inr (some p))), some (.inl f3)] [] h1) fun r5 h4 => (zcl (zx zblk xs 107 0 [some (.inr (.inl (zw r2))), none, some (.inr (.inl (zw r5))), none, some (.inl v2)] [] h4) fun r7 h6 => some (some (.inl r7), h6))))))) := (zx_unfold zblk xs 118 34 _ rfl _ _ _).trans rfl
/-- MindReadersModel.apartOf(I)I -/
theorem e_119_0 (xs : List Int) (p : Nat) (v1 : Int) (h : zH) : zx zblk xs 119 0 [some (.inr (.inr (some p))), some (.inl v1)] [] h = (zck h (some p) 7 (zcv (zx zblk xs 87 0 [some (.inr (.inr (some p))), some (.inl v1), some (.inl 0)] [] h) fun h1 => (zgr h1 (some p) 7 6 fun f2 => (zai xs h1 f2 v1 fun a3 => (if zw 2 ≤ zw a3 then zx zblk xs 119 20 [some (.inr (.inr (some p))), some (.inl v1)] [] h1 else zx zblk xs 119 22 [some (.inr (.inr (some p))), some (.inl v1)] [.inl (-1)] h1))))) := (zx_unfold zblk xs 119 0 _ rfl _ _ _).trans rfl
theorem e_119_20 (xs : List Int) (p : Nat) (v1 : Int) (h : zH) : zx zblk xs 119 20 [some (.inr (.inr (some p))), some (.inl v1)] [] h = zx zblk xs 119 22 [some (.inr (.inr (some p))), some (.inl v1)] [.inl 1000000] h := (zx_unfold zblk xs 119 20 _ rfl _ _ _).trans rfl
theorem e_119_22 (xs : List Int) (p : Nat) (v1 : Int) (s0 : Int) (h : zH) : zx zblk xs 119 22 [some (.inr (.inr (some p))), some (.inl v1)] [.inl s0] h = zx zblk xs 119 25 [some (.inr (.inr (some p))), some (.inl v1), some (.inl s0), some (.inl 0)] [] h := (zx_unfold zblk xs 119 22 _ rfl _ _ _).trans rfl
theorem e_119_25 (xs : List Int) (p : Nat) (v1 : Int) (v2 : Int) (v3 : Int) (h : zH) : zx zblk xs 119 25 [some (.inr (.inr (some p))), some (.inl v1), some (.inl v2), some (.inl v3)] [] h = (zgr h (some p) 7 6 fun f1 => (zai xs h f1 v1 fun a2 => (if zw a2 ≤ zw v3 then zx zblk xs 119 192 [none, none, some (.inl v2)] [] h else zx zblk xs 119 40 [some (.inr (.inr (some p))), some (.inl v1), some (.inl v2), some (.inl v3), some (.inl (v3 + 1))] [] h))) := (zx_unfold zblk xs 119 25 _ rfl _ _ _).trans rfl
theorem e_119_40 (xs : List Int) (p : Nat) (v1 : Int) (v2 : Int) (v3 : Int) (v4 : Int) (h : zH) : zx zblk xs 119 40 [some (.inr (.inr (some p))), some (.inl v1), some (.inl v2), some (.inl v3), some (.inl v4)] [] h = (zgr h (some p) 7 6 fun f1 => (zai xs h f1 v1 fun a2 => (if zw a2 ≤ zw v4 then zx zblk xs 119 186 [some (.inr (.inr (some p))), some (.inl v1), some (.inl v2), some (.inl v3)] [] h else zx zblk xs 119 57 [some (.inr (.inr (some p))), some (.inl v1), some (.inl v2), some (.inl v3), some (.inl v4), some (.inl 0), some (.inl 0)] [] h))) := (zx_unfold zblk xs 119 40 _ rfl _ _ _).trans rfl
theorem e_119_57 (xs : List Int) (p : Nat) (v1 : Int) (v2 : Int) (v3 : Int) (v4 : Int) (v5 : Int) (v6 : Int) (h : zH) : zx zblk xs 119 57 [some (.inr (.inr (some p))), some (.inl v1), some (.inl v2), some (.inl v3), some (.inl v4), some (.inl v5), some (.inl v6)] [] h = (zgr h (some p) 7 14 fun f1 => (zai xs h f1 (11 * v3) fun a2 => (if zw a2 ≤ zw v6 then zx zblk xs 119 141 [some (.inr (.inr (some p))), some (.inl v1), some (.inl v2), some (.inl v3), some (.inl v4), some (.inl v5)] [] h else (zgr h (some p) 7 14 fun f3 => (zai xs h f3 (11 * v3) fun a4 => (zgr h (some p) 7 14 fun f5 => (zai xs h f5 (11 * v4) fun a6 => (if zw a4 ≠ zw a6 then zx zblk xs 119 141 [some (.inr (.inr (some p))), some (.inl v1), some (.inl v2), some (.inl v3), some (.inl v4), some (.inl v5)] [] h else (zgr h (some p) 7 14 fun f7 => (zai xs h f7 (((11 * v3) + 1) + v6) fun a8 => (zgr h (some p) 7 14 fun f9 => (zai xs h f9 (((11 * v4) + 1) + v6) fun a10 => (if zw a8 ≠ zw a10 then zx zblk xs 119 131 [some (.inr (.inr (some p))), some (.inl v1), some (.inl v2), some (.inl v3), some (.inl v4), none, some (.inl v6)] [.inl v5] h else zx zblk xs 119 132 [some (.inr (.inr (some p))), some (.inl v1), some (.inl v2), some (.inl v3), some (.inl v4), none, some (.inl v6)] [.inl 0, .inl v5] h))))))))))))) := (zx_unfold zblk xs 119 57 _ rfl _ _ _).trans rfl
theorem e_119_131 (xs : List Int) (p : Nat) (v1 : Int) (v2 : Int) (v3 : Int) (v4 : Int) (v6 : Int) (s0 : Int) (h : zH) : zx zblk xs 119 131 [some (.inr (.inr (some p))), some (.inl v1), some (.inl v2), some (.inl v3), some (.inl v4), none, some (.inl v6)] [.inl s0] h = zx zblk xs 119 132 [some (.inr (.inr (some p))), some (.inl v1), some (.inl v2), some (.inl v3), some (.inl v4), none, some (.inl v6)] [.inl 1, .inl s0] h := (zx_unfold zblk xs 119 131 _ rfl _ _ _).trans rfl
theorem e_119_132 (xs : List Int) (p : Nat) (v1 : Int) (v2 : Int) (v3 : Int) (v4 : Int) (v6 : Int) (s0 : Int) (s1 : Int) (h : zH) : zx zblk xs 119 132 [some (.inr (.inr (some p))), some (.inl v1), some (.inl v2), some (.inl v3), some (.inl v4), none, some (.inl v6)] [.inl s1, .inl s0] h = zx zblk xs 119 57 [some (.inr (.inr (some p))), some (.inl v1), some (.inl v2), some (.inl v3), some (.inl v4), some (.inl (s0 + s1)), some (.inl (v6 + 1))] [] h := (zx_unfold zblk xs 119 132 _ rfl _ _ _).trans rfl
theorem e_119_141 (xs : List Int) (p : Nat) (v1 : Int) (v2 : Int) (v3 : Int) (v4 : Int) (v5 : Int) (h : zH) : zx zblk xs 119 141 [some (.inr (.inr (some p))), some (.inl v1), some (.inl v2), some (.inl v3), some (.inl v4), some (.inl v5)] [] h = (zgr h (some p) 7 14 fun f1 => (zai xs h f1 (11 * v3) fun a2 => (zgr h (some p) 7 14 fun f3 => (zai xs h f3 (11 * v4) fun a4 => (if zw a2 = zw a4 then zx zblk xs 119 167 [some (.inr (.inr (some p))), some (.inl v1), some (.inl v2), some (.inl v3), some (.inl v4), some (.inl v5)] [] h else zx zblk xs 119 179 [some (.inr (.inr (some p))), some (.inl v1), none, some (.inl v3), some (.inl v4)] [.inl (-1)] h))))) := (zx_unfold zblk xs 119 141 _ rfl _ _ _).trans rfl
theorem e_119_167 (xs : List Int) (p : Nat) (v1 : Int) (v2 : Int) (v3 : Int) (v4 : Int) (v5 : Int) (h : zH) : zx zblk xs 119 167 [some (.inr (.inr (some p))), some (.inl v1), some (.inl v2), some (.inl v3), some (.inl v4), some (.inl v5)] [] h = (if zw v2 ≤ zw v5 then zx zblk xs 119 178 [some (.inr (.inr (some p))), some (.inl v1), some (.inl v2), some (.inl v3), some (.inl v4)] [] h else zx zblk xs 119 179 [some (.inr (.inr (some p))), some (.inl v1), none, some (.inl v3), some (.inl v4)] [.inl v5] h) := (zx_unfold zblk xs 119 167 _ rfl _ _ _).trans rfl
theorem e_119_178 (xs : List Int) (p : Nat) (v1 : Int) (v2 : Int) (v3 : Int) (v4 : Int) (h : zH) : zx zblk xs 119 178 [some (.inr (.inr (some p))), some (.inl v1), some (.inl v2), some (.inl v3), some (.inl v4)] [] h = zx zblk xs 119 179 [some (.inr (.inr (some p))), some (.inl v1), none, some (.inl v3), some (.inl v4)] [.inl v2] h := (zx_unfold zblk xs 119 178 _ rfl _ _ _).trans rfl
theorem e_119_179 (xs : List Int) (p : Nat) (v1 : Int) (v3 : Int) (v4 : Int) (s0 : Int) (h : zH) : zx zblk xs 119 179 [some (.inr (.inr (some p))), some (.inl v1), none, some (.inl v3), some (.inl v4)] [.inl s0] h = zx zblk xs 119 40 [some (.inr (.inr (some p))), some (.inl v1), some (.inl s0), some (.inl v3), some (.inl (v4 + 1))] [] h := (zx_unfold zblk xs 119 179 _ rfl _ _ _).trans rfl
theorem e_119_186 (xs : List Int) (p : Nat) (v1 : Int) (v2 : Int) (v3 : Int) (h : zH) : zx zblk xs 119 186 [some (.inr (.inr (some p))), some (.inl v1), some (.inl v2), some (.inl v3)] [] h = zx zblk xs 119 25 [some (.inr (.inr (some p))), some (.inl v1), some (.inl v2), some (.inl (v3 + 1))] [] h := (zx_unfold zblk xs 119 186 _ rfl _ _ _).trans rfl
theorem e_119_192 (xs : List Int) (v2 : Int) (h : zH) : zx zblk xs 119 192 [none, none, some (.inl v2)] [] h = some (some (.inl v2), h) := (zx_unfold zblk xs 119 192 _ rfl _ _ _).trans rfl
/-- MindReadersModel.apart(I)I -/
theorem e_120_0 (xs : List Int) (p : Nat) (v1 : Int) (h : zH) : zx zblk xs 120 0 [some (.inr (.inr (some p))), some (.inl v1)] [] h = (zck h (some p) 7 (zci (zx zblk xs 74 0 [some (.inr (.inr (some p))), some (.inl v1)] [] h) fun r2 h1 => (if zw r2 = 0 then zx zblk xs 120 16 [] [] h1 else (zck h1 (some p) 7 (zci (zx zblk xs 119 0 [some (.inr (.inr (some p))), some (.inl v1)] [] h1) fun r4 h3 => zx zblk xs 120 18 [] [.inl r4] h3))))) := (zx_unfold zblk xs 120 0 _ rfl _ _ _).trans rfl
theorem e_120_16 (xs : List Int)  (h : zH) : zx zblk xs 120 16 [] [] h = zx zblk xs 120 18 [] [.inl (-101)] h := (zx_unfold zblk xs 120 16 _ rfl _ _ _).trans rfl
theorem e_120_18 (xs : List Int) (s0 : Int) (h : zH) : zx zblk xs 120 18 [] [.inl s0] h = some (some (.inl s0), h) := (zx_unfold zblk xs 120 18 _ rfl _ _ _).trans rfl
/-- MindReadersModel.named(I)I -/
theorem e_121_0 (xs : List Int) (p : Nat) (v1 : Int) (h : zH) : zx zblk xs 121 0 [some (.inr (.inr (some p))), some (.inl v1)] [] h = (zck h (some p) 7 (zci (zx zblk xs 74 0 [some (.inr (.inr (some p))), some (.inl v1)] [] h) fun r2 h1 => (if zw r2 ≠ 0 then zx zblk xs 121 11 [some (.inr (.inr (some p))), some (.inl v1)] [] h1 else some (some (.inl (-101)), h1)))) := (zx_unfold zblk xs 121 0 _ rfl _ _ _).trans rfl
theorem e_121_11 (xs : List Int) (p : Nat) (v1 : Int) (h : zH) : zx zblk xs 121 11 [some (.inr (.inr (some p))), some (.inl v1)] [] h = (zck h (some p) 7 (zcv (zx zblk xs 87 0 [some (.inr (.inr (some p))), some (.inl v1), some (.inl 0)] [] h) fun h1 => (zck h1 (some p) 7 (zci (zx zblk xs 93 0 [some (.inr (.inr (some p)))] [] h1) fun r3 h2 => (if zw r3 = 0 then zx zblk xs 121 32 [] [] h2 else (zck h2 (some p) 7 (zci (zx zblk xs 95 0 [some (.inr (.inr (some p))), some (.inl v1)] [] h2) fun r5 h4 => zx zblk xs 121 34 [] [.inl r5] h4))))))) := (zx_unfold zblk xs 121 11 _ rfl _ _ _).trans rfl
theorem e_121_32 (xs : List Int)  (h : zH) : zx zblk xs 121 32 [] [] h = zx zblk xs 121 34 [] [.inl (-103)] h := (zx_unfold zblk xs 121 32 _ rfl _ _ _).trans rfl
theorem e_121_34 (xs : List Int) (s0 : Int) (h : zH) : zx zblk xs 121 34 [] [.inl s0] h = some (some (.inl s0), h) := (zx_unfold zblk xs 121 34 _ rfl _ _ _).trans rfl
/-- MindReadersModel.isAmong(II)Z -/
theorem e_122_0 (xs : List Int) (p : Nat) (v1 : Int) (v2 : Int) (h : zH) : zx zblk xs 122 0 [some (.inr (.inr (some p))), some (.inl v1), some (.inl v2)] [] h = (zgr h (some p) 7 14 fun f1 => (zai xs h f1 (11 * v1) fun a2 => (if zw 4 < zw a2 then zx zblk xs 122 17 [some (.inr (.inr (some p))), some (.inl v1), some (.inl v2)] [] h else zx zblk xs 122 18 [some (.inr (.inr (some p))), some (.inl v1), some (.inl v2)] [.inl 1] h))) := (zx_unfold zblk xs 122 0 _ rfl _ _ _).trans rfl
theorem e_122_17 (xs : List Int) (p : Nat) (v1 : Int) (v2 : Int) (h : zH) : zx zblk xs 122 17 [some (.inr (.inr (some p))), some (.inl v1), some (.inl v2)] [] h = zx zblk xs 122 18 [some (.inr (.inr (some p))), some (.inl v1), some (.inl v2)] [.inl 0] h := (zx_unfold zblk xs 122 17 _ rfl _ _ _).trans rfl
theorem e_122_18 (xs : List Int) (p : Nat) (v1 : Int) (v2 : Int) (s0 : Int) (h : zH) : zx zblk xs 122 18 [some (.inr (.inr (some p))), some (.inl v1), some (.inl v2)] [.inl s0] h = zx zblk xs 122 22 [some (.inr (.inr (some p))), some (.inl v1), some (.inl v2), some (.inl s0), some (.inl 0)] [] h := (zx_unfold zblk xs 122 18 _ rfl _ _ _).trans rfl
theorem e_122_22 (xs : List Int) (p : Nat) (v1 : Int) (v2 : Int) (v3 : Int) (v4 : Int) (h : zH) : zx zblk xs 122 22 [some (.inr (.inr (some p))), some (.inl v1), some (.inl v2), some (.inl v3), some (.inl v4)] [] h = (zgr h (some p) 7 14 fun f1 => (zai xs h f1 (11 * v1) fun a2 => (if zw a2 ≤ zw v4 then zx zblk xs 122 70 [none, none, none, some (.inl v3)] [] h else (if zw v3 = 0 then zx zblk xs 122 62 [some (.inr (.inr (some p))), some (.inl v1), some (.inl v2), none, some (.inl v4)] [] h else (zgr h (some p) 7 14 fun f3 => (zai xs h f3 (((11 * v1) + 1) + v4) fun a4 => (if zw v2 ≤ zw a4 then zx zblk xs 122 62 [some (.inr (.inr (some p))), some (.inl v1), some (.inl v2), none, some (.inl v4)] [] h else zx zblk xs 122 63 [some (.inr (.inr (some p))), some (.inl v1), some (.inl v2), none, some (.inl v4)] [.inl 1] h))))))) := (zx_unfold zblk xs 122 22 _ rfl _ _ _).trans rfl
theorem e_122_62 (xs : List Int) (p : Nat) (v1 : Int) (v2 : Int) (v4 : Int) (h : zH) : zx zblk xs 122 62 [some (.inr (.inr (some p))), some (.inl v1), some (.inl v2), none, some (.inl v4)] [] h = zx zblk xs 122 63 [some (.inr (.inr (some p))), some (.inl v1), some (.inl v2), none, some (.inl v4)] [.inl 0] h := (zx_unfold zblk xs 122 62 _ rfl _ _ _).trans rfl
theorem e_122_63 (xs : List Int) (p : Nat) (v1 : Int) (v2 : Int) (v4 : Int) (s0 : Int) (h : zH) : zx zblk xs 122 63 [some (.inr (.inr (some p))), some (.inl v1), some (.inl v2), none, some (.inl v4)] [.inl s0] h = zx zblk xs 122 22 [some (.inr (.inr (some p))), some (.inl v1), some (.inl v2), some (.inl s0), some (.inl (v4 + 1))] [] h := (zx_unfold zblk xs 122 63 _ rfl _ _ _).trans rfl
theorem e_122_70 (xs : List Int) (v3 : Int) (h : zH) : zx zblk xs 122 70 [none, none, none, some (.inl v3)] [] h = (if v3 = 0 ∨ v3 = 1 then some (some (.inl v3), h) else none) := (zx_unfold zblk xs 122 70 _ rfl _ _ _).trans rfl
/-- MindReadersModel.right(IIIII)J -/
theorem e_123_0 (xs : List Int) (p : Nat) (v1 : Int) (v2 : Int) (v3 : Int) (v4 : Int) (v5 : Int) (h : zH) : zx zblk xs 123 0 [some (.inr (.inr (some p))), some (.inl v1), some (.inl v2), some (.inl v3), some (.inl v4), some (.inl v5)] [] h = (zck h (some p) 7 (zci (zx zblk xs 74 0 [some (.inr (.inr (some p))), some (.inl v1)] [] h) fun r2 h1 => (if zw r2 = 0 then zx zblk xs 123 25 [] [] h1 else (zck h1 (some p) 7 (zci (zx zblk xs 105 0 [some (.inr (.inr (some p))), some (.inl v1)] [] h1) fun r4 h3 => (zci (zx zblk xs 67 0 [some (.inr (.inl (zw v2))), none, some (.inr (.inl 0)), none, some (.inr (.inl (zw (r4 - 1)))), none] [] h3) fun r6 h5 => (if zw r6 ≠ 0 then zx zblk xs 123 29 [some (.inr (.inr (some p))), some (.inl v1), some (.inl v2), some (.inl v3), some (.inl v4), some (.inl v5)] [] h5 else zx zblk xs 123 25 [] [] h5))))))) := (zx_unfold zblk xs 123 0 _ rfl _ _ _).trans rfl
theorem e_123_25 (xs : List Int)  (h : zH) : zx zblk xs 123 25 [] [] h = some (some (.inr (.inl (-101))), h) := (zx_unfold zblk xs 123 25 _ rfl _ _ _).trans rfl
theorem e_123_29 (xs : List Int) (p : Nat) (v1 : Int) (v2 : Int) (v3 : Int) (v4 : Int) (v5 : Int) (h : zH) : zx zblk xs 123 29 [some (.inr (.inr (some p))), some (.inl v1), some (.inl v2), some (.inl v3), some (.inl v4), some (.inl v5)] [] h = (zci (zx zblk xs 67 0 [some (.inr (.inl (zw v3))), none, some (.inr (.inl 2)), none, some (.inr (.inl 8)), none] [] h) fun r2 h1 => (if zw r2 = 0 then zx zblk xs 123 64 [] [] h1 else (zci (zx zblk xs 67 0 [some (.inr (.inl (zw v4))), none, some (.inr (.inl 0)), none, some (.inr (.inl 10)), none] [] h1) fun r4 h3 => (if zw r4 = 0 then zx zblk xs 123 64 [] [] h3 else (zci (zx zblk xs 108 0 [some (.inl v5)] [] h3) fun r6 h5 => (if zw r6 ≠ 0 then zx zblk xs 123 68 [some (.inr (.inr (some p))), some (.inl v1), some (.inl v2), some (.inl v3), some (.inl v4), some (.inl v5)] [] h5 else zx zblk xs 123 64 [] [] h5)))))) := (zx_unfold zblk xs 123 29 _ rfl _ _ _).trans rfl
theorem e_123_64 (xs : List Int)  (h : zH) : zx zblk xs 123 64 [] [] h = some (some (.inr (.inl (-102))), h) := (zx_unfold zblk xs 123 64 _ rfl _ _ _).trans rfl
theorem e_123_68 (xs : List Int) (p : Nat) (v1 : Int) (v2 : Int) (v3 : Int) (v4 : Int) (v5 : Int) (h : zH) : zx zblk xs 123 68 [some (.inr (.inr (some p))), some (.inl v1), some (.inl v2), some (.inl v3), some (.inl v4), some (.inl v5)] [] h = (zck h (some p) 7 (zcv (zx zblk xs 87 0 [some (.inr (.inr (some p))), some (.inl v1), some (.inl 0)] [] h) fun h1 => (zck h1 (some p) 7 (zci (zx zblk xs 122 0 [some (.inr (.inr (some p))), some (.inl v2), some (.inl v3)] [] h1) fun r3 h2 => (if zw r3 ≠ 0 then zx zblk xs 123 87 [some (.inr (.inr (some p))), some (.inl v1), some (.inl v2), some (.inl v3), some (.inl v4), some (.inl v5)] [] h2 else some (some (.inr (.inl (-103))), h2)))))) := (zx_unfold zblk xs 123 68 _ rfl _ _ _).trans rfl
theorem e_123_87 (xs : List Int) (p : Nat) (v1 : Int) (v2 : Int) (v3 : Int) (v4 : Int) (v5 : Int) (h : zH) : zx zblk xs 123 87 [some (.inr (.inr (some p))), some (.inl v1), some (.inl v2), some (.inl v3), some (.inl v4), some (.inl v5)] [] h = (zgr h (some p) 7 14 fun f1 => (zai xs h f1 (11 * v2) fun a2 => zx zblk xs 123 107 [some (.inr (.inr (some p))), some (.inl v1), some (.inl v2), some (.inl v3), some (.inl v4), some (.inl v5), some (.inl a2), some (.inl 1), some (.inr (.inl 1)), none, some (.inl 0)] [] h)) := (zx_unfold zblk xs 123 87 _ rfl _ _ _).trans rfl
theorem e_123_107 (xs : List Int) (p : Nat) (v1 : Int) (v2 : Int) (v3 : Int) (v4 : Int) (v5 : Int) (v6 : Int) (v7 : Int) (v8 : Int) (v10 : Int) (h : zH) : zx zblk xs 123 107 [some (.inr (.inr (some p))), some (.inl v1), some (.inl v2), some (.inl v3), some (.inl v4), some (.inl v5), some (.inl v6), some (.inl v7), some (.inr (.inl v8)), none, some (.inl v10)] [] h = (if zw v6 ≤ zw v10 then zx zblk xs 123 139 [some (.inr (.inr (some p))), some (.inl v1), some (.inl v2), some (.inl v3), some (.inl v4), some (.inl v5), some (.inl v6), some (.inl v7), some (.inr (.inl v8))] [] h else zx zblk xs 123 107 [some (.inr (.inr (some p))), some (.inl v1), some (.inl v2), some (.inl v3), some (.inl v4), some (.inl v5), some (.inl v6), some (.inl (v7 * v3)), some (.inr (.inl (v8 * (10 * (zw (v3 - 1)))))), none, some (.inl (v10 + 1))] [] h) := (zx_unfold zblk xs 123 107 _ rfl _ _ _).trans rfl
theorem e_123_139 (xs : List Int) (p : Nat) (v1 : Int) (v2 : Int) (v3 : Int) (v4 : Int) (v5 : Int) (v6 : Int) (v7 : Int) (v8 : Int) (h : zH) : zx zblk xs 123 139 [some (.inr (.inr (some p))), some (.inl v1), some (.inl v2), some (.inl v3), some (.inl v4), some (.inl v5), some (.inl v6), some (.inl v7), some (.inr (.inl v8))] [] h = (zpf h (some p) 7 13 (.inl v6) fun h1 => zx zblk xs 123 151 [some (.inr (.inr (some p))), some (.inl v1), some (.inl v2), some (.inl v3), some (.inl v4), some (.inl v5), some (.inl v6), some (.inl v7), some (.inr (.inl v8)), none, some (.inr (.inl 0)), none, some (.inl 0)] [] h1) := (zx_unfold zblk xs 123 139 _ rfl _ _ _).trans rfl
theorem e_123_151 (xs : List Int) (p : Nat) (v1 : Int) (v2 : Int) (v3 : Int) (v4 : Int) (v5 : Int) (v6 : Int) (v7 : Int) (v8 : Int) (v10 : Int) (v12 : Int) (h : zH) : zx zblk xs 123 151 [some (.inr (.inr (some p))), some (.inl v1), some (.inl v2), some (.inl v3), some (.inl v4), some (.inl v5), some (.inl v6), some (.inl v7), some (.inr (.inl v8)), none, some (.inr (.inl v10)), none, some (.inl v12)] [] h = (if zw v7 ≤ zw v12 then zx zblk xs 123 271 [none, none, none, none, none, some (.inl v5), none, none, some (.inr (.inl v8)), none, some (.inr (.inl v10))] [] h else zx zblk xs 123 168 [some (.inr (.inr (some p))), some (.inl v1), some (.inl v2), some (.inl v3), some (.inl v4), some (.inl v5), some (.inl v6), some (.inl v7), some (.inr (.inl v8)), none, some (.inr (.inl v10)), none, some (.inl v12), some (.inl v12), some (.inr (.inl 1)), none, some (.inl 0)] [] h) := (zx_unfold zblk xs 123 151 _ rfl _ _ _).trans rfl
theorem e_123_168 (xs : List Int) (p : Nat) (v1 : Int) (v2 : Int) (v3 : Int) (v4 : Int) (v5 : Int) (v6 : Int) (v7 : Int) (v8 : Int) (v10 : Int) (v12 : Int) (v13 : Int) (v14 : Int) (v16 : Int) (h : zH) : zx zblk xs 123 168 [some (.inr (.inr (some p))), some (.inl v1), some (.inl v2), some (.inl v3), some (.inl v4), some (.inl v5), some (.inl v6), some (.inl v7), some (.inr (.inl v8)), none, some (.inr (.inl v10)), none, some (.inl v12), some (.inl v13), some (.inr (.inl v14)), none, some (.inl v16)] [] h = (if zw v6 ≤ zw v16 then zx zblk xs 123 245 [some (.inr (.inr (some p))), some (.inl v1), some (.inl v2), some (.inl v3), some (.inl v4), some (.inl v5), some (.inl v6), some (.inl v7), some (.inr (.inl v8)), none, some (.inr (.inl v10)), none, some (.inl v12), none, some (.inr (.inl v14))] [] h else (zgr h (some p) 7 12 fun f1 => (if zw v3 = 0 then none else (zst h f1 100 v16 (.inl ((zw v13).tmod (zw v3))) fun h2 => (if zw v3 = 0 then none else (zgr h2 (some p) 7 12 fun f3 => (zai xs h2 f3 v16 fun a4 => (zgr h2 (some p) 7 14 fun f5 => (zai xs h2 f5 (((11 * v2) + 1) + v16) fun a6 => (if zw a4 ≠ zw a6 then zx zblk xs 123 233 [some (.inr (.inr (some p))), some (.inl v1), some (.inl v2), some (.inl v3), some (.inl v4), some (.inl v5), some (.inl v6), some (.inl v7), some (.inr (.inl v8)), none, some (.inr (.inl v10)), none, some (.inl v12), some (.inl ((zw v13).tdiv (zw v3))), none, none, some (.inl v16)] [.inr (.inl v14)] h2 else zx zblk xs 123 236 [some (.inr (.inr (some p))), some (.inl v1), some (.inl v2), some (.inl v3), some (.inl v4), some (.inl v5), some (.inl v6), some (.inl v7), some (.inr (.inl v8)), none, some (.inr (.inl v10)), none, some (.inl v12), some (.inl ((zw v13).tdiv (zw v3))), none, none, some (.inl v16)] [.inr (.inl ((10 - (zw v4)) * (zw (v3 - 1)))), .inr (.inl v14)] h2)))))))))) := (zx_unfold zblk xs 123 168 _ rfl _ _ _).trans rfl
theorem e_123_233 (xs : List Int) (p : Nat) (v1 : Int) (v2 : Int) (v3 : Int) (v4 : Int) (v5 : Int) (v6 : Int) (v7 : Int) (v8 : Int) (v10 : Int) (v12 : Int) (v13 : Int) (v16 : Int) (s0 : Int) (h : zH) : zx zblk xs 123 233 [some (.inr (.inr (some p))), some (.inl v1), some (.inl v2), some (.inl v3), some (.inl v4), some (.inl v5), some (.inl v6), some (.inl v7), some (.inr (.inl v8)), none, some (.inr (.inl v10)), none, some (.inl v12), some (.inl v13), none, none, some (.inl v16)] [.inr (.inl s0)] h = zx zblk xs 123 236 [some (.inr (.inr (some p))), some (.inl v1), some (.inl v2), some (.inl v3), some (.inl v4), some (.inl v5), some (.inl v6), some (.inl v7), some (.inr (.inl v8)), none, some (.inr (.inl v10)), none, some (.inl v12), some (.inl v13), none, none, some (.inl v16)] [.inr (.inl (zw v4)), .inr (.inl s0)] h := (zx_unfold zblk xs 123 233 _ rfl _ _ _).trans rfl
theorem e_123_236 (xs : List Int) (p : Nat) (v1 : Int) (v2 : Int) (v3 : Int) (v4 : Int) (v5 : Int) (v6 : Int) (v7 : Int) (v8 : Int) (v10 : Int) (v12 : Int) (v13 : Int) (v16 : Int) (s0 : Int) (s1 : Int) (h : zH) : zx zblk xs 123 236 [some (.inr (.inr (some p))), some (.inl v1), some (.inl v2), some (.inl v3), some (.inl v4), some (.inl v5), some (.inl v6), some (.inl v7), some (.inr (.inl v8)), none, some (.inr (.inl v10)), none, some (.inl v12), some (.inl v13), none, none, some (.inl v16)] [.inr (.inl s1), .inr (.inl s0)] h = zx zblk xs 123 168 [some (.inr (.inr (some p))), some (.inl v1), some (.inl v2), some (.inl v3), some (.inl v4), some (.inl v5), some (.inl v6), some (.inl v7), some (.inr (.inl v8)), none, some (.inr (.inl v10)), none, some (.inl v12), some (.inl v13), some (.inr (.inl (s0 * s1))), none, some (.inl (v16 + 1))] [] h := (zx_unfold zblk xs 123 236 _ rfl _ _ _).trans rfl
theorem e_123_245 (xs : List Int) (p : Nat) (v1 : Int) (v2 : Int) (v3 : Int) (v4 : Int) (v5 : Int) (v6 : Int) (v7 : Int) (v8 : Int) (v10 : Int) (v12 : Int) (v14 : Int) (h : zH) : zx zblk xs 123 245 [some (.inr (.inr (some p))), some (.inl v1), some (.inl v2), some (.inl v3), some (.inl v4), some (.inl v5), some (.inl v6), some (.inl v7), some (.inr (.inl v8)), none, some (.inr (.inl v10)), none, some (.inl v12), none, some (.inr (.inl v14))] [] h = (zck h (some p) 7 (zci (zx zblk xs 95 0 [some (.inr (.inr (some p))), some (.inl v1)] [] h) fun r2 h1 => (if zw r2 ≠ zw v2 then zx zblk xs 123 261 [some (.inr (.inr (some p))), some (.inl v1), some (.inl v2), some (.inl v3), some (.inl v4), some (.inl v5), some (.inl v6), some (.inl v7), some (.inr (.inl v8)), none, none, none, some (.inl v12)] [.inr (.inl v10)] h1 else zx zblk xs 123 262 [some (.inr (.inr (some p))), some (.inl v1), some (.inl v2), some (.inl v3), some (.inl v4), some (.inl v5), some (.inl v6), some (.inl v7), some (.inr (.inl v8)), none, none, none, some (.inl v12)] [.inr (.inl v14), .inr (.inl v10)] h1))) := (zx_unfold zblk xs 123 245 _ rfl _ _ _).trans rfl
theorem e_123_261 (xs : List Int) (p : Nat) (v1 : Int) (v2 : Int) (v3 : Int) (v4 : Int) (v5 : Int) (v6 : Int) (v7 : Int) (v8 : Int) (v12 : Int) (s0 : Int) (h : zH) : zx zblk xs 123 261 [some (.inr (.inr (some p))), some (.inl v1), some (.inl v2), some (.inl v3), some (.inl v4), some (.inl v5), some (.inl v6), some (.inl v7), some (.inr (.inl v8)), none, none, none, some (.inl v12)] [.inr (.inl s0)] h = zx zblk xs 123 262 [some (.inr (.inr (some p))), some (.inl v1), some (.inl v2), some (.inl v3), some (.inl v4), some (.inl v5), some (.inl v6), some (.inl v7), some (.inr (.inl v8)), none, none, none, some (.inl v12)] [.inr (.inl 0), .inr (.inl s0)] h := (zx_unfold zblk xs 123 261 _ rfl _ _ _).trans rfl
theorem e_123_262 (xs : List Int) (p : Nat) (v1 : Int) (v2 : Int) (v3 : Int) (v4 : Int) (v5 : Int) (v6 : Int) (v7 : Int) (v8 : Int) (v12 : Int) (s0 : Int) (s1 : Int) (h : zH) : zx zblk xs 123 262 [some (.inr (.inr (some p))), some (.inl v1), some (.inl v2), some (.inl v3), some (.inl v4), some (.inl v5), some (.inl v6), some (.inl v7), some (.inr (.inl v8)), none, none, none, some (.inl v12)] [.inr (.inl s1), .inr (.inl s0)] h = zx zblk xs 123 151 [some (.inr (.inr (some p))), some (.inl v1), some (.inl v2), some (.inl v3), some (.inl v4), some (.inl v5), some (.inl v6), some (.inl v7), some (.inr (.inl v8)), none, some (.inr (.inl (s0 + s1))), none, some (.inl (v12 + 1))] [] h := (zx_unfold zblk xs 123 262 _ rfl _ _ _).trans rfl
theorem e_123_271 (xs : List Int) (v5 : Int) (v8 : Int) (v10 : Int) (h : zH) : zx zblk xs 123 271 [none, none, none, none, none, some (.inl v5), none, none, some (.inr (.inl v8)), none, some (.inr (.inl v10))] [] h = (zcl (zx zblk xs 107 0 [some (.inr (.inl v10)), none, some (.inr (.inl v8)), none, some (.inl v5)] [] h) fun r2 h1 => some (some (.inr (.inl r2)), h1)) := (zx_unfold zblk xs 123 271 _ rfl _ _ _).trans rfl
/-- MindReadersModel.note(I)I -/
theorem e_124_0 (xs : List Int) (p : Nat) (v1 : Int) (h : zH) : zx zblk xs 124 0 [some (.inr (.inr (some p))), some (.inl v1)] [] h = (zck h (some p) 7 (zci (zx zblk xs 80 0 [some (.inr (.inr (some p))), some (.inl v1)] [] h) fun r2 h1 => (if zw r2 ≠ 0 then zx zblk xs 124 11 [some (.inr (.inr (some p))), some (.inl v1)] [] h1 else some (some (.inl (-101)), h1)))) := (zx_unfold zblk xs 124 0 _ rfl _ _ _).trans rfl
theorem e_124_11 (xs : List Int) (p : Nat) (v1 : Int) (h : zH) : zx zblk xs 124 11 [some (.inr (.inr (some p))), some (.inl v1)] [] h = (zck h (some p) 7 (zci (zx zblk xs 93 0 [some (.inr (.inr (some p)))] [] h) fun r2 h1 => (if zw r2 = 0 then zx zblk xs 124 27 [] [] h1 else (zgi h1 (some p) 7 1 fun f3 => (if zw f3 ≤ zw 8 then zx zblk xs 124 30 [some (.inr (.inr (some p))), some (.inl v1)] [] h1 else zx zblk xs 124 27 [] [] h1))))) := (zx_unfold zblk xs 124 11 _ rfl _ _ _).trans rfl
theorem e_124_27 (xs : List Int)  (h : zH) : zx zblk xs 124 27 [] [] h = some (some (.inl (-103)), h) := (zx_unfold zblk xs 124 27 _ rfl _ _ _).trans rfl
theorem e_124_30 (xs : List Int) (p : Nat) (v1 : Int) (h : zH) : zx zblk xs 124 30 [some (.inr (.inr (some p))), some (.inl v1)] [] h = (zgi h (some p) 7 18 fun f1 => (if zw f1 ≠ zw 10 then zx zblk xs 124 42 [some (.inr (.inr (some p))), some (.inl v1)] [] h else some (some (.inl (-104)), h))) := (zx_unfold zblk xs 124 30 _ rfl _ _ _).trans rfl
theorem e_124_42 (xs : List Int) (p : Nat) (v1 : Int) (h : zH) : zx zblk xs 124 42 [some (.inr (.inr (some p))), some (.inl v1)] [] h = (zgr h (some p) 7 19 fun f1 => (zgi h (some p) 7 18 fun f2 => (zst h f1 100 (10 * f2) (.inl v1) fun h3 => (zgr h3 (some p) 7 19 fun f4 => (zgi h3 (some p) 7 18 fun f5 => (zgi h3 (some p) 7 1 fun f6 => (zst h3 f4 100 ((10 * f5) + 1) (.inl f6) fun h7 => zx zblk xs 124 75 [some (.inr (.inr (some p))), none, some (.inl 0)] [] h7))))))) := (zx_unfold zblk xs 124 42 _ rfl _ _ _).trans rfl
theorem e_124_75 (xs : List Int) (p : Nat) (v2 : Int) (h : zH) : zx zblk xs 124 75 [some (.inr (.inr (some p))), none, some (.inl v2)] [] h = (zgi h (some p) 7 1 fun f1 => (if zw f1 ≤ zw v2 then zx zblk xs 124 114 [some (.inr (.inr (some p)))] [] h else (zgr h (some p) 7 19 fun f2 => (zgi h (some p) 7 18 fun f3 => (zgr h (some p) 7 0 fun f4 => (zai xs h f4 v2 fun a5 => (zst h f2 100 (((10 * f3) + 2) + v2) (.inl (a5 - 97)) fun h6 => zx zblk xs 124 75 [some (.inr (.inr (some p))), none, some (.inl (v2 + 1))] [] h6))))))) := (zx_unfold zblk xs 124 75 _ rfl _ _ _).trans rfl
theorem e_124_114 (xs : List Int) (p : Nat) (h : zH) : zx zblk xs 124 114 [some (.inr (.inr (some p)))] [] h = (zgi h (some p) 7 18 fun f1 => (zpf h (some p) 7 18 (.inl (f1 + 1)) fun h2 => (zpf h2 (some p) 7 1 (.inl 0) fun h3 => (zgi h3 (some p) 7 18 fun f4 => some (some (.inl f4), h3))))) := (zx_unfold zblk xs 124 114 _ rfl _ _ _).trans rfl
/-- MindReadersModel.forget()I -/
theorem e_125_0 (xs : List Int) (p : Nat) (h : zH) : zx zblk xs 125 0 [some (.inr (.inr (some p)))] [] h = (zgi h (some p) 7 18 fun f1 => (zpf h (some p) 7 18 (.inl 0) fun h2 => some (some (.inl f1), h2))) := (zx_unfold zblk xs 125 0 _ rfl _ _ _).trans rfl
/-- MindReadersModel.isSaid(III)Z -/
theorem e_126_0 (xs : List Int) (p : Nat) (v1 : Int) (v2 : Int) (v3 : Int) (h : zH) : zx zblk xs 126 0 [some (.inr (.inr (some p))), some (.inl v1), some (.inl v2), some (.inl v3)] [] h = (zgr h (some p) 7 6 fun f1 => (zai xs h f1 v2 fun a2 => (if zw v3 < zw a2 then zx zblk xs 126 12 [some (.inr (.inr (some p))), some (.inl v1), none, some (.inl v3)] [] h else (if 0 = 0 ∨ 0 = 1 then some (some (.inl 0), h) else none)))) := (zx_unfold zblk xs 126 0 _ rfl _ _ _).trans rfl
theorem e_126_12 (xs : List Int) (p : Nat) (v1 : Int) (v3 : Int) (h : zH) : zx zblk xs 126 12 [some (.inr (.inr (some p))), some (.inl v1), none, some (.inl v3)] [] h = (zpf h (some p) 7 13 (.inl 0) fun h1 => zx zblk xs 126 20 [some (.inr (.inr (some p))), some (.inl v1), none, some (.inl v3), some (.inl 0)] [] h1) := (zx_unfold zblk xs 126 12 _ rfl _ _ _).trans rfl
theorem e_126_20 (xs : List Int) (p : Nat) (v1 : Int) (v3 : Int) (v4 : Int) (h : zH) : zx zblk xs 126 20 [some (.inr (.inr (some p))), some (.inl v1), none, some (.inl v3), some (.inl v4)] [] h = (zgr h (some p) 7 19 fun f1 => (zai xs h f1 ((10 * v1) + 1) fun a2 => (if zw a2 ≤ zw v4 then zx zblk xs 126 60 [some (.inr (.inr (some p))), none, none, some (.inl v3)] [] h else (zgr h (some p) 7 19 fun f3 => (zai xs h f3 (((10 * v1) + 2) + v4) fun a4 => (zck h (some p) 7 (zcv (zx zblk xs 85 0 [some (.inr (.inr (some p))), some (.inl a4)] [] h) fun h5 => zx zblk xs 126 20 [some (.inr (.inr (some p))), some (.inl v1), none, some (.inl v3), some (.inl (v4 + 1))] [] h5))))))) := (zx_unfold zblk xs 126 20 _ rfl _ _ _).trans rfl
theorem e_126_60 (xs : List Int) (p : Nat) (v3 : Int) (h : zH) : zx zblk xs 126 60 [some (.inr (.inr (some p))), none, none, some (.inl v3)] [] h = (zck h (some p) 7 (zci (zx zblk xs 94 0 [some (.inr (.inr (some p))), some (.inl v3)] [] h) fun r2 h1 => (if zw r2 ≠ 0 then zx zblk xs 126 72 [] [] h1 else zx zblk xs 126 73 [] [.inl 1] h1))) := (zx_unfold zblk xs 126 60 _ rfl _ _ _).trans rfl
theorem e_126_72 (xs : List Int)  (h : zH) : zx zblk xs 126 72 [] [] h = zx zblk xs 126 73 [] [.inl 0] h := (zx_unfold zblk xs 126 72 _ rfl _ _ _).trans rfl
theorem e_126_73 (xs : List Int) (s0 : Int) (h : zH) : zx zblk xs 126 73 [] [.inl s0] h = (if s0 = 0 ∨ s0 = 1 then some (some (.inl s0), h) else none) := (zx_unfold zblk xs 126 73 _ rfl _ _ _).trans rfl
/-- MindReadersModel.whichNow()I -/
theorem e_127_0 (xs : List Int) (p : Nat) (h : zH) : zx zblk xs 127 0 [some (.inr (.inr (some p)))] [] h = zx zblk xs 127 4 [some (.inr (.inr (some p))), some (.inl 0), some (.inl 0)] [] h := (zx_unfold zblk xs 127 0 _ rfl _ _ _).trans rfl
theorem e_127_4 (xs : List Int) (p : Nat) (v1 : Int) (v2 : Int) (h : zH) : zx zblk xs 127 4 [some (.inr (.inr (some p))), some (.inl v1), some (.inl v2)] [] h = (zgi h (some p) 7 5 fun f1 => (if zw f1 ≤ zw v2 then zx zblk xs 127 88 [none, some (.inl v1)] [] h else (zck h (some p) 7 (zcv (zx zblk xs 87 0 [some (.inr (.inr (some p))), some (.inl v2), some (.inl 0)] [] h) fun h2 => zx zblk xs 127 23 [some (.inr (.inr (some p))), some (.inl v1), some (.inl v2), some (.inl 1), some (.inl 0)] [] h2)))) := (zx_unfold zblk xs 127 4 _ rfl _ _ _).trans rfl
theorem e_127_23 (xs : List Int) (p : Nat) (v1 : Int) (v2 : Int) (v3 : Int) (v4 : Int) (h : zH) : zx zblk xs 127 23 [some (.inr (.inr (some p))), some (.inl v1), some (.inl v2), some (.inl v3), some (.inl v4)] [] h = (zgi h (some p) 7 18 fun f1 => (if zw f1 ≤ zw v4 then zx zblk xs 127 68 [some (.inr (.inr (some p))), some (.inl v1), some (.inl v2), some (.inl v3)] [] h else (if zw v3 = 0 then zx zblk xs 127 60 [some (.inr (.inr (some p))), some (.inl v1), some (.inl v2), none, some (.inl v4)] [] h else (zgr h (some p) 7 19 fun f2 => (zai xs h f2 (10 * v4) fun a3 => (zck h (some p) 7 (zci (zx zblk xs 126 0 [some (.inr (.inr (some p))), some (.inl v4), some (.inl v2), some (.inl a3)] [] h) fun r5 h4 => (if zw r5 = 0 then zx zblk xs 127 60 [some (.inr (.inr (some p))), some (.inl v1), some (.inl v2), none, some (.inl v4)] [] h4 else zx zblk xs 127 61 [some (.inr (.inr (some p))), some (.inl v1), some (.inl v2), none, some (.inl v4)] [.inl 1] h4)))))))) := (zx_unfold zblk xs 127 23 _ rfl _ _ _).trans rfl
theorem e_127_60 (xs : List Int) (p : Nat) (v1 : Int) (v2 : Int) (v4 : Int) (h : zH) : zx zblk xs 127 60 [some (.inr (.inr (some p))), some (.inl v1), some (.inl v2), none, some (.inl v4)] [] h = zx zblk xs 127 61 [some (.inr (.inr (some p))), some (.inl v1), some (.inl v2), none, some (.inl v4)] [.inl 0] h := (zx_unfold zblk xs 127 60 _ rfl _ _ _).trans rfl
theorem e_127_61 (xs : List Int) (p : Nat) (v1 : Int) (v2 : Int) (v4 : Int) (s0 : Int) (h : zH) : zx zblk xs 127 61 [some (.inr (.inr (some p))), some (.inl v1), some (.inl v2), none, some (.inl v4)] [.inl s0] h = zx zblk xs 127 23 [some (.inr (.inr (some p))), some (.inl v1), some (.inl v2), some (.inl s0), some (.inl (v4 + 1))] [] h := (zx_unfold zblk xs 127 61 _ rfl _ _ _).trans rfl
theorem e_127_68 (xs : List Int) (p : Nat) (v1 : Int) (v2 : Int) (v3 : Int) (h : zH) : zx zblk xs 127 68 [some (.inr (.inr (some p))), some (.inl v1), some (.inl v2), some (.inl v3)] [] h = (if zw v3 = 0 then zx zblk xs 127 79 [some (.inr (.inr (some p))), none, some (.inl v2)] [.inl v1] h else zx zblk xs 127 80 [some (.inr (.inr (some p))), none, some (.inl v2)] [.inl (zshl 1 v2), .inl v1] h) := (zx_unfold zblk xs 127 68 _ rfl _ _ _).trans rfl
theorem e_127_79 (xs : List Int) (p : Nat) (v2 : Int) (s0 : Int) (h : zH) : zx zblk xs 127 79 [some (.inr (.inr (some p))), none, some (.inl v2)] [.inl s0] h = zx zblk xs 127 80 [some (.inr (.inr (some p))), none, some (.inl v2)] [.inl 0, .inl s0] h := (zx_unfold zblk xs 127 79 _ rfl _ _ _).trans rfl
theorem e_127_80 (xs : List Int) (p : Nat) (v2 : Int) (s0 : Int) (s1 : Int) (h : zH) : zx zblk xs 127 80 [some (.inr (.inr (some p))), none, some (.inl v2)] [.inl s1, .inl s0] h = zx zblk xs 127 4 [some (.inr (.inr (some p))), some (.inl (zor s0 s1)), some (.inl (v2 + 1))] [] h := (zx_unfold zblk xs 127 80 _ rfl _ _ _).trans rfl
theorem e_127_88 (xs : List Int) (v1 : Int) (h : zH) : zx zblk xs 127 88 [none, some (.inl v1)] [] h = some (some (.inl v1), h) := (zx_unfold zblk xs 127 88 _ rfl _ _ _).trans rfl
/-- MindReadersModel.which()I -/
theorem e_128_0 (xs : List Int) (p : Nat) (h : zH) : zx zblk xs 128 0 [some (.inr (.inr (some p)))] [] h = (zck h (some p) 7 (zci (zx zblk xs 127 0 [some (.inr (.inr (some p)))] [] h) fun r2 h1 => some (some (.inl r2), h1))) := (zx_unfold zblk xs 128 0 _ rfl _ _ _).trans rfl
/-- MindReadersModel.step(II)I -/
theorem e_129_0 (xs : List Int) (p : Nat) (v1 : Int) (v2 : Int) (h : zH) : zx zblk xs 129 0 [some (.inr (.inr (some p))), some (.inl v1), some (.inl v2)] [] h = (zck h (some p) 7 (zci (zx zblk xs 74 0 [some (.inr (.inr (some p))), some (.inl v1)] [] h) fun r2 h1 => (if zw r2 ≠ 0 then zx zblk xs 129 11 [some (.inr (.inr (some p))), some (.inl v1), some (.inl v2)] [] h1 else some (some (.inl (-101)), h1)))) := (zx_unfold zblk xs 129 0 _ rfl _ _ _).trans rfl
theorem e_129_11 (xs : List Int) (p : Nat) (v1 : Int) (v2 : Int) (h : zH) : zx zblk xs 129 11 [some (.inr (.inr (some p))), some (.inl v1), some (.inl v2)] [] h = (zci (zx zblk xs 67 0 [some (.inr (.inl (zw v2))), none, some (.inr (.inl 0)), none, some (.inr (.inl 99)), none] [] h) fun r2 h1 => (if zw r2 ≠ 0 then zx zblk xs 129 26 [some (.inr (.inr (some p))), some (.inl v1), some (.inl v2)] [] h1 else some (some (.inl (-102)), h1))) := (zx_unfold zblk xs 129 11 _ rfl _ _ _).trans rfl
theorem e_129_26 (xs : List Int) (p : Nat) (v1 : Int) (v2 : Int) (h : zH) : zx zblk xs 129 26 [some (.inr (.inr (some p))), some (.inl v1), some (.inl v2)] [] h = (zck h (some p) 7 (zci (zx zblk xs 105 0 [some (.inr (.inr (some p))), some (.inl v1)] [] h) fun r2 h1 => (if zw r2 ≠ 0 then zx zblk xs 129 39 [some (.inr (.inr (some p))), some (.inl v1), some (.inl v2), some (.inl r2)] [] h1 else some (some (.inl (-103)), h1)))) := (zx_unfold zblk xs 129 26 _ rfl _ _ _).trans rfl
theorem e_129_39 (xs : List Int) (p : Nat) (v1 : Int) (v2 : Int) (v3 : Int) (h : zH) : zx zblk xs 129 39 [some (.inr (.inr (some p))), some (.inl v1), some (.inl v2), some (.inl v3)] [] h = (zck h (some p) 7 (zcv (zx zblk xs 87 0 [some (.inr (.inr (some p))), some (.inl v1), some (.inl 0)] [] h) fun h1 => zx zblk xs 129 48 [some (.inr (.inr (some p))), some (.inl v1), some (.inl v2), some (.inl v3), some (.inl 0)] [] h1)) := (zx_unfold zblk xs 129 39 _ rfl _ _ _).trans rfl
theorem e_129_48 (xs : List Int) (p : Nat) (v1 : Int) (v2 : Int) (v3 : Int) (v4 : Int) (h : zH) : zx zblk xs 129 48 [some (.inr (.inr (some p))), some (.inl v1), some (.inl v2), some (.inl v3), some (.inl v4)] [] h = (if zw 8 ≤ zw v4 then zx zblk xs 129 139 [] [] h else zx zblk xs 129 61 [some (.inr (.inr (some p))), some (.inl v1), some (.inl v2), some (.inl v3), some (.inl v4), some (.inl 1), some (.inl 0)] [] h) := (zx_unfold zblk xs 129 48 _ rfl _ _ _).trans rfl
theorem e_129_61 (xs : List Int) (p : Nat) (v1 : Int) (v2 : Int) (v3 : Int) (v4 : Int) (v5 : Int) (v6 : Int) (h : zH) : zx zblk xs 129 61 [some (.inr (.inr (some p))), some (.inl v1), some (.inl v2), some (.inl v3), some (.inl v4), some (.inl v5), some (.inl v6)] [] h = (zgi h (some p) 7 18 fun f1 => (if zw f1 ≤ zw v6 then zx zblk xs 129 125 [some (.inr (.inr (some p))), some (.inl v1), some (.inl v2), some (.inl v3), some (.inl v4), some (.inl v5)] [] h else (zgr h (some p) 7 19 fun f2 => (zai xs h f2 (10 * v6) fun a3 => (if zw v5 = 0 then zx zblk xs 129 116 [some (.inr (.inr (some p))), some (.inl v1), some (.inl v2), some (.inl v3), some (.inl v4), none, some (.inl v6)] [] h else (if zw v3 ≤ zw a3 then zx zblk xs 129 116 [some (.inr (.inr (some p))), some (.inl v1), some (.inl v2), some (.inl v3), some (.inl v4), none, some (.inl v6)] [] h else (if zw v3 = 0 then none else (zck h (some p) 7 (zci (zx zblk xs 126 0 [some (.inr (.inr (some p))), some (.inl v6), some (.inl v1), some (.inl ((zw (a3 + (v4 * v2))).tmod (zw v3)))] [] h) fun r5 h4 => (if zw r5 = 0 then zx zblk xs 129 116 [some (.inr (.inr (some p))), some (.inl v1), some (.inl v2), some (.inl v3), some (.inl v4), none, some (.inl v6)] [] h4 else zx zblk xs 129 117 [some (.inr (.inr (some p))), some (.inl v1), some (.inl v2), some (.inl v3), some (.inl v4), none, some (.inl v6)] [.inl 1] h4)))))))))) := (zx_unfold zblk xs 129 61 _ rfl _ _ _).trans rfl
theorem e_129_116 (xs : List Int) (p : Nat) (v1 : Int) (v2 : Int) (v3 : Int) (v4 : Int) (v6 : Int) (h : zH) : zx zblk xs 129 116 [some (.inr (.inr (some p))), some (.inl v1), some (.inl v2), some (.inl v3), some (.inl v4), none, some (.inl v6)] [] h = zx zblk xs 129 117 [some (.inr (.inr (some p))), some (.inl v1), some (.inl v2), some (.inl v3), some (.inl v4), none, some (.inl v6)] [.inl 0] h := (zx_unfold zblk xs 129 116 _ rfl _ _ _).trans rfl
theorem e_129_117 (xs : List Int) (p : Nat) (v1 : Int) (v2 : Int) (v3 : Int) (v4 : Int) (v6 : Int) (s0 : Int) (h : zH) : zx zblk xs 129 117 [some (.inr (.inr (some p))), some (.inl v1), some (.inl v2), some (.inl v3), some (.inl v4), none, some (.inl v6)] [.inl s0] h = zx zblk xs 129 61 [some (.inr (.inr (some p))), some (.inl v1), some (.inl v2), some (.inl v3), some (.inl v4), some (.inl s0), some (.inl (v6 + 1))] [] h := (zx_unfold zblk xs 129 117 _ rfl _ _ _).trans rfl
theorem e_129_125 (xs : List Int) (p : Nat) (v1 : Int) (v2 : Int) (v3 : Int) (v4 : Int) (v5 : Int) (h : zH) : zx zblk xs 129 125 [some (.inr (.inr (some p))), some (.inl v1), some (.inl v2), some (.inl v3), some (.inl v4), some (.inl v5)] [] h = (if zw v5 = 0 then zx zblk xs 129 133 [some (.inr (.inr (some p))), some (.inl v1), some (.inl v2), some (.inl v3), some (.inl v4)] [] h else some (some (.inl v4), h)) := (zx_unfold zblk xs 129 125 _ rfl _ _ _).trans rfl
theorem e_129_133 (xs : List Int) (p : Nat) (v1 : Int) (v2 : Int) (v3 : Int) (v4 : Int) (h : zH) : zx zblk xs 129 133 [some (.inr (.inr (some p))), some (.inl v1), some (.inl v2), some (.inl v3), some (.inl v4)] [] h = zx zblk xs 129 48 [some (.inr (.inr (some p))), some (.inl v1), some (.inl v2), some (.inl v3), some (.inl (v4 + 1))] [] h := (zx_unfold zblk xs 129 133 _ rfl _ _ _).trans rfl
theorem e_129_139 (xs : List Int)  (h : zH) : zx zblk xs 129 139 [] [] h = some (some (.inl (-1)), h) := (zx_unfold zblk xs 129 139 _ rfl _ _ _).trans rfl
/-- MindReadersModel.seen(II)J -/
theorem e_130_0 (xs : List Int) (p : Nat) (v1 : Int) (v2 : Int) (h : zH) : zx zblk xs 130 0 [some (.inr (.inr (some p))), some (.inl v1), some (.inl v2)] [] h = (zci (zx zblk xs 67 0 [some (.inr (.inl (zw v1))), none, some (.inr (.inl 1)), none, some (.inr (.inl 6)), none] [] h) fun r2 h1 => (if zw r2 = 0 then zx zblk xs 130 19 [] [] h1 else (zci (zx zblk xs 108 0 [some (.inl v2)] [] h1) fun r4 h3 => (if zw r4 ≠ 0 then zx zblk xs 130 23 [some (.inr (.inr (some p))), some (.inl v1), some (.inl v2)] [] h3 else zx zblk xs 130 19 [] [] h3)))) := (zx_unfold zblk xs 130 0 _ rfl _ _ _).trans rfl
theorem e_130_19 (xs : List Int)  (h : zH) : zx zblk xs 130 19 [] [] h = some (some (.inr (.inl (-102))), h) := (zx_unfold zblk xs 130 19 _ rfl _ _ _).trans rfl
theorem e_130_23 (xs : List Int) (p : Nat) (v1 : Int) (v2 : Int) (h : zH) : zx zblk xs 130 23 [some (.inr (.inr (some p))), some (.inl v1), some (.inl v2)] [] h = (zgi h (some p) 7 10 fun f1 => (if zw f1 ≠ 0 then zx zblk xs 130 34 [some (.inr (.inr (some p))), some (.inl v1), some (.inl v2)] [] h else some (some (.inr (.inl (-103))), h))) := (zx_unfold zblk xs 130 23 _ rfl _ _ _).trans rfl
theorem e_130_34 (xs : List Int) (p : Nat) (v1 : Int) (v2 : Int) (h : zH) : zx zblk xs 130 34 [some (.inr (.inr (some p))), some (.inl v1), some (.inl v2)] [] h = zx zblk xs 130 36 [some (.inr (.inr (some p))), some (.inl v1), some (.inl v2), some (.inl 0)] [] h := (zx_unfold zblk xs 130 34 _ rfl _ _ _).trans rfl
theorem e_130_36 (xs : List Int) (p : Nat) (v1 : Int) (v2 : Int) (v3 : Int) (h : zH) : zx zblk xs 130 36 [some (.inr (.inr (some p))), some (.inl v1), some (.inl v2), some (.inl v3)] [] h = (if zw 256 ≤ zw v3 then zx zblk xs 130 64 [some (.inr (.inr (some p))), some (.inl v1), some (.inl v2)] [] h else (zgr h (some p) 7 20 fun f1 => (if zw v3 ≠ 0 then zx zblk xs 130 56 [some (.inr (.inr (some p))), some (.inl v1), some (.inl v2), some (.inl v3)] [.inl v3, .inr (.inr f1)] h else zx zblk xs 130 57 [some (.inr (.inr (some p))), some (.inl v1), some (.inl v2), some (.inl v3)] [.inr (.inl 1), .inl v3, .inr (.inr f1)] h))) := (zx_unfold zblk xs 130 36 _ rfl _ _ _).trans rfl
theorem e_130_56 (xs : List Int) (p : Nat) (v1 : Int) (v2 : Int) (v3 : Int) (s0 : Option Nat) (s1 : Int) (h : zH) : zx zblk xs 130 56 [some (.inr (.inr (some p))), some (.inl v1), some (.inl v2), some (.inl v3)] [.inl s1, .inr (.inr s0)] h = zx zblk xs 130 57 [some (.inr (.inr (some p))), some (.inl v1), some (.inl v2), some (.inl v3)] [.inr (.inl 0), .inl s1, .inr (.inr s0)] h := (zx_unfold zblk xs 130 56 _ rfl _ _ _).trans rfl
theorem e_130_57 (xs : List Int) (p : Nat) (v1 : Int) (v2 : Int) (v3 : Int) (s0 : Option Nat) (s1 : Int) (s2 : Int) (h : zH) : zx zblk xs 130 57 [some (.inr (.inr (some p))), some (.inl v1), some (.inl v2), some (.inl v3)] [.inr (.inl s2), .inl s1, .inr (.inr s0)] h = (zst h s0 101 s1 (.inr (.inl s2)) fun h1 => zx zblk xs 130 36 [some (.inr (.inr (some p))), some (.inl v1), some (.inl v2), some (.inl (v3 + 1))] [] h1) := (zx_unfold zblk xs 130 57 _ rfl _ _ _).trans rfl
theorem e_130_64 (xs : List Int) (p : Nat) (v1 : Int) (v2 : Int) (h : zH) : zx zblk xs 130 64 [some (.inr (.inr (some p))), some (.inl v1), some (.inl v2)] [] h = zx zblk xs 130 69 [some (.inr (.inr (some p))), some (.inl v1), some (.inl v2), some (.inr (.inl 1)), none, some (.inl 0)] [] h := (zx_unfold zblk xs 130 64 _ rfl _ _ _).trans rfl
theorem e_130_69 (xs : List Int) (p : Nat) (v1 : Int) (v2 : Int) (v3 : Int) (v5 : Int) (h : zH) : zx zblk xs 130 69 [some (.inr (.inr (some p))), some (.inl v1), some (.inl v2), some (.inr (.inl v3)), none, some (.inl v5)] [] h = (if zw v1 ≤ zw v5 then zx zblk xs 130 210 [some (.inr (.inr (some p))), none, some (.inl v2), some (.inr (.inl v3))] [] h else (zgi h (some p) 7 10 fun f1 => (zck h (some p) 7 (zci (zx zblk xs 109 0 [some (.inr (.inr (some p))), some (.inl f1)] [] h) fun r3 h2 => zx zblk xs 130 90 [some (.inr (.inr (some p))), some (.inl v1), some (.inl v2), some (.inr (.inl (v3 * (zw r3)))), none, some (.inl v5), some (.inl 0)] [] h2)))) := (zx_unfold zblk xs 130 69 _ rfl _ _ _).trans rfl
theorem e_130_90 (xs : List Int) (p : Nat) (v1 : Int) (v2 : Int) (v3 : Int) (v5 : Int) (v6 : Int) (h : zH) : zx zblk xs 130 90 [some (.inr (.inr (some p))), some (.inl v1), some (.inl v2), some (.inr (.inl v3)), none, some (.inl v5), some (.inl v6)] [] h = (if zw 256 ≤ zw v6 then zx zblk xs 130 126 [some (.inr (.inr (some p))), some (.inl v1), some (.inl v2), some (.inr (.inl v3)), none, some (.inl v5)] [] h else (zgr h (some p) 7 21 fun f1 => (zgr h (some p) 7 20 fun f2 => (zal xs h f2 v6 fun a3 => (zst h f1 101 v6 (.inr (.inl a3)) fun h4 => (zgr h4 (some p) 7 20 fun f5 => (zst h4 f5 101 v6 (.inr (.inl 0)) fun h6 => zx zblk xs 130 90 [some (.inr (.inr (some p))), some (.inl v1), some (.inl v2), some (.inr (.inl v3)), none, some (.inl v5), some (.inl (v6 + 1))] [] h6))))))) := (zx_unfold zblk xs 130 90 _ rfl _ _ _).trans rfl
theorem e_130_126 (xs : List Int) (p : Nat) (v1 : Int) (v2 : Int) (v3 : Int) (v5 : Int) (h : zH) : zx zblk xs 130 126 [some (.inr (.inr (some p))), some (.inl v1), some (.inl v2), some (.inr (.inl v3)), none, some (.inl v5)] [] h = zx zblk xs 130 129 [some (.inr (.inr (some p))), some (.inl v1), some (.inl v2), some (.inr (.inl v3)), none, some (.inl v5), some (.inl 0)] [] h := (zx_unfold zblk xs 130 126 _ rfl _ _ _).trans rfl
theorem e_130_129 (xs : List Int) (p : Nat) (v1 : Int) (v2 : Int) (v3 : Int) (v5 : Int) (v6 : Int) (h : zH) : zx zblk xs 130 129 [some (.inr (.inr (some p))), some (.inl v1), some (.inl v2), some (.inr (.inl v3)), none, some (.inl v5), some (.inl v6)] [] h = (if zw 256 ≤ zw v6 then zx zblk xs 130 204 [some (.inr (.inr (some p))), some (.inl v1), some (.inl v2), some (.inr (.inl v3)), none, some (.inl v5)] [] h else zx zblk xs 130 140 [some (.inr (.inr (some p))), some (.inl v1), some (.inl v2), some (.inr (.inl v3)), none, some (.inl v5), some (.inl v6), some (.inl 0)] [] h) := (zx_unfold zblk xs 130 129 _ rfl _ _ _).trans rfl
theorem e_130_140 (xs : List Int) (p : Nat) (v1 : Int) (v2 : Int) (v3 : Int) (v5 : Int) (v6 : Int) (v7 : Int) (h : zH) : zx zblk xs 130 140 [some (.inr (.inr (some p))), some (.inl v1), some (.inl v2), some (.inr (.inl v3)), none, some (.inl v5), some (.inl v6), some (.inl v7)] [] h = (zgi h (some p) 7 10 fun f1 => (if zw f1 ≤ zw v7 then zx zblk xs 130 198 [some (.inr (.inr (some p))), some (.inl v1), some (.inl v2), some (.inr (.inl v3)), none, some (.inl v5), some (.inl v6)] [] h else (zgr h (some p) 7 21 fun f2 => (zal xs h f2 v6 fun a3 => (if zw (if zwl a3 < zwl 0 then -1 else if zwl a3 = zwl 0 then 0 else 1) ≤ 0 then zx zblk xs 130 198 [some (.inr (.inr (some p))), some (.inl v1), some (.inl v2), some (.inr (.inl v3)), none, some (.inl v5), some (.inl v6)] [] h else (zgr h (some p) 7 20 fun f4 => (zal xs h f4 (zor v6 (zshl 1 v7)) fun a5 => (zgr h (some p) 7 21 fun f6 => (zal xs h f6 v6 fun a7 => (zgr h (some p) 7 11 fun f8 => (zai xs h f8 v7 fun a9 => (zst h f4 101 (zor v6 (zshl 1 v7)) (.inr (.inl (a5 + (a7 * (zw a9))))) fun h10 => zx zblk xs 130 140 [some (.inr (.inr (some p))), some (.inl v1), some (.inl v2), some (.inr (.inl v3)), none, some (.inl v5), some (.inl v6), some (.inl (v7 + 1))] [] h10)))))))))))) := (zx_unfold zblk xs 130 140 _ rfl _ _ _).trans rfl
theorem e_130_198 (xs : List Int) (p : Nat) (v1 : Int) (v2 : Int) (v3 : Int) (v5 : Int) (v6 : Int) (h : zH) : zx zblk xs 130 198 [some (.inr (.inr (some p))), some (.inl v1), some (.inl v2), some (.inr (.inl v3)), none, some (.inl v5), some (.inl v6)] [] h = zx zblk xs 130 129 [some (.inr (.inr (some p))), some (.inl v1), some (.inl v2), some (.inr (.inl v3)), none, some (.inl v5), some (.inl (v6 + 1))] [] h := (zx_unfold zblk xs 130 198 _ rfl _ _ _).trans rfl
theorem e_130_204 (xs : List Int) (p : Nat) (v1 : Int) (v2 : Int) (v3 : Int) (v5 : Int) (h : zH) : zx zblk xs 130 204 [some (.inr (.inr (some p))), some (.inl v1), some (.inl v2), some (.inr (.inl v3)), none, some (.inl v5)] [] h = zx zblk xs 130 69 [some (.inr (.inr (some p))), some (.inl v1), some (.inl v2), some (.inr (.inl v3)), none, some (.inl (v5 + 1))] [] h := (zx_unfold zblk xs 130 204 _ rfl _ _ _).trans rfl
theorem e_130_210 (xs : List Int) (p : Nat) (v2 : Int) (v3 : Int) (h : zH) : zx zblk xs 130 210 [some (.inr (.inr (some p))), none, some (.inl v2), some (.inr (.inl v3))] [] h = (zgr h (some p) 7 20 fun f1 => (zgi h (some p) 7 10 fun f2 => (zal xs h f1 ((zshl 1 f2) - 1) fun a3 => (zcl (zx zblk xs 107 0 [some (.inr (.inl a3)), none, some (.inr (.inl v3)), none, some (.inl v2)] [] h) fun r5 h4 => some (some (.inr (.inl r5)), h4))))) := (zx_unfold zblk xs 130 210 _ rfl _ _ _).trans rfl
/-- MindReadersModel.isLike(III)Z -/
theorem e_131_0 (xs : List Int) (p : Nat) (v1 : Int) (v2 : Int) (v3 : Int) (h : zH) : zx zblk xs 131 0 [some (.inr (.inr (some p))), some (.inl v1), some (.inl v2), some (.inl v3)] [] h = (zgr h (some p) 7 7 fun f1 => (zai xs h f1 ((48 * v1) + (6 * v3)) fun a2 => (zgr h (some p) 7 7 fun f3 => (zai xs h f3 ((48 * v2) + (6 * v3)) fun a4 => (if zw a2 ≠ zw a4 then zx zblk xs 131 43 [some (.inr (.inr (some p))), none, none, none, some (.inl ((48 * v1) + (6 * v3))), some (.inl ((48 * v2) + (6 * v3)))] [] h else zx zblk xs 131 44 [some (.inr (.inr (some p))), none, none, none, some (.inl ((48 * v1) + (6 * v3))), some (.inl ((48 * v2) + (6 * v3)))] [.inl 1] h))))) := (zx_unfold zblk xs 131 0 _ rfl _ _ _).trans rfl
theorem e_131_43 (xs : List Int) (p : Nat) (v4 : Int) (v5 : Int) (h : zH) : zx zblk xs 131 43 [some (.inr (.inr (some p))), none, none, none, some (.inl v4), some (.inl v5)] [] h = zx zblk xs 131 44 [some (.inr (.inr (some p))), none, none, none, some (.inl v4), some (.inl v5)] [.inl 0] h := (zx_unfold zblk xs 131 43 _ rfl _ _ _).trans rfl
theorem e_131_44 (xs : List Int) (p : Nat) (v4 : Int) (v5 : Int) (s0 : Int) (h : zH) : zx zblk xs 131 44 [some (.inr (.inr (some p))), none, none, none, some (.inl v4), some (.inl v5)] [.inl s0] h = zx zblk xs 131 49 [some (.inr (.inr (some p))), none, none, none, some (.inl v4), some (.inl v5), some (.inl s0), some (.inl 1)] [] h := (zx_unfold zblk xs 131 44 _ rfl _ _ _).trans rfl
theorem e_131_49 (xs : List Int) (p : Nat) (v4 : Int) (v5 : Int) (v6 : Int) (v7 : Int) (h : zH) : zx zblk xs 131 49 [some (.inr (.inr (some p))), none, none, none, some (.inl v4), some (.inl v5), some (.inl v6), some (.inl v7)] [] h = (zgr h (some p) 7 7 fun f1 => (zai xs h f1 v4 fun a2 => (if zw a2 < zw v7 then zx zblk xs 131 102 [none, none, none, none, none, none, some (.inl v6)] [] h else (if zw v6 = 0 then zx zblk xs 131 102 [none, none, none, none, none, none, some (.inl v6)] [] h else (zgr h (some p) 7 7 fun f3 => (zai xs h f3 (v4 + v7) fun a4 => (zgr h (some p) 7 7 fun f5 => (zai xs h f5 (v5 + v7) fun a6 => (if zw a4 ≠ zw a6 then zx zblk xs 131 93 [some (.inr (.inr (some p))), none, none, none, some (.inl v4), some (.inl v5), none, some (.inl v7)] [] h else zx zblk xs 131 94 [some (.inr (.inr (some p))), none, none, none, some (.inl v4), some (.inl v5), none, some (.inl v7)] [.inl 1] h))))))))) := (zx_unfold zblk xs 131 49 _ rfl _ _ _).trans rfl
theorem e_131_93 (xs : List Int) (p : Nat) (v4 : Int) (v5 : Int) (v7 : Int) (h : zH) : zx zblk xs 131 93 [some (.inr (.inr (some p))), none, none, none, some (.inl v4), some (.inl v5), none, some (.inl v7)] [] h = zx zblk xs 131 94 [some (.inr (.inr (some p))), none, none, none, some (.inl v4), some (.inl v5), none, some (.inl v7)] [.inl 0] h := (zx_unfold zblk xs 131 93 _ rfl _ _ _).trans rfl
theorem e_131_94 (xs : List Int) (p : Nat) (v4 : Int) (v5 : Int) (v7 : Int) (s0 : Int) (h : zH) : zx zblk xs 131 94 [some (.inr (.inr (some p))), none, none, none, some (.inl v4), some (.inl v5), none, some (.inl v7)] [.inl s0] h = zx zblk xs 131 49 [some (.inr (.inr (some p))), none, none, none, some (.inl v4), some (.inl v5), some (.inl s0), some (.inl (v7 + 1))] [] h := (zx_unfold zblk xs 131 94 _ rfl _ _ _).trans rfl
theorem e_131_102 (xs : List Int) (v6 : Int) (h : zH) : zx zblk xs 131 102 [none, none, none, none, none, none, some (.inl v6)] [] h = (if v6 = 0 ∨ v6 = 1 then some (some (.inl v6), h) else none) := (zx_unfold zblk xs 131 102 _ rfl _ _ _).trans rfl
/-- MindReadersModel.changeOf(II)I -/
theorem e_132_0 (xs : List Int) (p : Nat) (v1 : Int) (v2 : Int) (h : zH) : zx zblk xs 132 0 [some (.inr (.inr (some p))), some (.inl v1), some (.inl v2)] [] h = zx zblk xs 132 5 [some (.inr (.inr (some p))), some (.inl v1), some (.inl v2), some (.inl 0), some (.inl 0)] [] h := (zx_unfold zblk xs 132 0 _ rfl _ _ _).trans rfl
theorem e_132_5 (xs : List Int) (p : Nat) (v1 : Int) (v2 : Int) (v3 : Int) (v4 : Int) (h : zH) : zx zblk xs 132 5 [some (.inr (.inr (some p))), some (.inl v1), some (.inl v2), some (.inl v3), some (.inl v4)] [] h = (zgr h (some p) 7 6 fun f1 => (zai xs h f1 v2 fun a2 => (if zw a2 ≤ zw v4 then zx zblk xs 132 70 [none, none, none, some (.inl v3)] [] h else (zgr h (some p) 7 6 fun f3 => (zai xs h f3 v1 fun a4 => (if zw a4 ≤ zw v4 then zx zblk xs 132 42 [some (.inr (.inr (some p))), some (.inl v1), some (.inl v2), some (.inl v3), some (.inl v4)] [] h else (zck h (some p) 7 (zci (zx zblk xs 131 0 [some (.inr (.inr (some p))), some (.inl v1), some (.inl v2), some (.inl v4)] [] h) fun r6 h5 => (if zw r6 = 0 then zx zblk xs 132 42 [some (.inr (.inr (some p))), some (.inl v1), some (.inl v2), some (.inl v3), some (.inl v4)] [] h5 else zx zblk xs 132 43 [some (.inr (.inr (some p))), some (.inl v1), some (.inl v2), some (.inl v3), some (.inl v4)] [.inl 1] h5))))))))) := (zx_unfold zblk xs 132 5 _ rfl _ _ _).trans rfl
theorem e_132_42 (xs : List Int) (p : Nat) (v1 : Int) (v2 : Int) (v3 : Int) (v4 : Int) (h : zH) : zx zblk xs 132 42 [some (.inr (.inr (some p))), some (.inl v1), some (.inl v2), some (.inl v3), some (.inl v4)] [] h = zx zblk xs 132 43 [some (.inr (.inr (some p))), some (.inl v1), some (.inl v2), some (.inl v3), some (.inl v4)] [.inl 0] h := (zx_unfold zblk xs 132 42 _ rfl _ _ _).trans rfl
theorem e_132_43 (xs : List Int) (p : Nat) (v1 : Int) (v2 : Int) (v3 : Int) (v4 : Int) (s0 : Int) (h : zH) : zx zblk xs 132 43 [some (.inr (.inr (some p))), some (.inl v1), some (.inl v2), some (.inl v3), some (.inl v4)] [.inl s0] h = (if zw s0 = 0 then zx zblk xs 132 55 [some (.inr (.inr (some p))), some (.inl v1), some (.inl v2), none, some (.inl v4)] [.inl v3] h else zx zblk xs 132 62 [some (.inr (.inr (some p))), some (.inl v1), some (.inl v2), none, some (.inl v4)] [.inl 0, .inl v3] h) := (zx_unfold zblk xs 132 43 _ rfl _ _ _).trans rfl
theorem e_132_55 (xs : List Int) (p : Nat) (v1 : Int) (v2 : Int) (v4 : Int) (s0 : Int) (h : zH) : zx zblk xs 132 55 [some (.inr (.inr (some p))), some (.inl v1), some (.inl v2), none, some (.inl v4)] [.inl s0] h = (zck h (some p) 7 (zci (zx zblk xs 88 0 [some (.inr (.inr (some p))), some (.inl v2), some (.inl v4)] [] h) fun r2 h1 => zx zblk xs 132 62 [some (.inr (.inr (some p))), some (.inl v1), some (.inl v2), none, some (.inl v4)] [.inl r2, .inl s0] h1)) := (zx_unfold zblk xs 132 55 _ rfl _ _ _).trans rfl
theorem e_132_62 (xs : List Int) (p : Nat) (v1 : Int) (v2 : Int) (v4 : Int) (s0 : Int) (s1 : Int) (h : zH) : zx zblk xs 132 62 [some (.inr (.inr (some p))), some (.inl v1), some (.inl v2), none, some (.inl v4)] [.inl s1, .inl s0] h = zx zblk xs 132 5 [some (.inr (.inr (some p))), some (.inl v1), some (.inl v2), some (.inl (s0 + s1)), some (.inl (v4 + 1))] [] h := (zx_unfold zblk xs 132 62 _ rfl _ _ _).trans rfl
theorem e_132_70 (xs : List Int) (v3 : Int) (h : zH) : zx zblk xs 132 70 [none, none, none, some (.inl v3)] [] h = some (some (.inl v3), h) := (zx_unfold zblk xs 132 70 _ rfl _ _ _).trans rfl
/-- MindReadersModel.change(II)I -/
theorem e_133_0 (xs : List Int) (p : Nat) (v1 : Int) (v2 : Int) (h : zH) : zx zblk xs 133 0 [some (.inr (.inr (some p))), some (.inl v1), some (.inl v2)] [] h = (zck h (some p) 7 (zci (zx zblk xs 74 0 [some (.inr (.inr (some p))), some (.inl v1)] [] h) fun r2 h1 => (if zw r2 = 0 then zx zblk xs 133 25 [] [] h1 else (zck h1 (some p) 7 (zci (zx zblk xs 74 0 [some (.inr (.inr (some p))), some (.inl v2)] [] h1) fun r4 h3 => (if zw r4 = 0 then zx zblk xs 133 25 [] [] h3 else (zck h3 (some p) 7 (zci (zx zblk xs 132 0 [some (.inr (.inr (some p))), some (.inl v1), some (.inl v2)] [] h3) fun r6 h5 => zx zblk xs 133 27 [] [.inl r6] h5)))))))) := (zx_unfold zblk xs 133 0 _ rfl _ _ _).trans rfl
theorem e_133_25 (xs : List Int)  (h : zH) : zx zblk xs 133 25 [] [] h = zx zblk xs 133 27 [] [.inl (-101)] h := (zx_unfold zblk xs 133 25 _ rfl _ _ _).trans rfl
theorem e_133_27 (xs : List Int) (s0 : Int) (h : zH) : zx zblk xs 133 27 [] [.inl s0] h = some (some (.inl s0), h) := (zx_unfold zblk xs 133 27 _ rfl _ _ _).trans rfl
/-- MindReadersModel.cheapest(I)I -/
theorem e_134_0 (xs : List Int) (p : Nat) (v1 : Int) (h : zH) : zx zblk xs 134 0 [some (.inr (.inr (some p))), some (.inl v1)] [] h = (zck h (some p) 7 (zci (zx zblk xs 74 0 [some (.inr (.inr (some p))), some (.inl v1)] [] h) fun r2 h1 => (if zw r2 ≠ 0 then zx zblk xs 134 11 [some (.inr (.inr (some p))), some (.inl v1)] [] h1 else some (some (.inl (-101)), h1)))) := (zx_unfold zblk xs 134 0 _ rfl _ _ _).trans rfl
theorem e_134_11 (xs : List Int) (p : Nat) (v1 : Int) (h : zH) : zx zblk xs 134 11 [some (.inr (.inr (some p))), some (.inl v1)] [] h = zx zblk xs 134 18 [some (.inr (.inr (some p))), some (.inl v1), some (.inl (-1)), some (.inl 0), some (.inl 0)] [] h := (zx_unfold zblk xs 134 11 _ rfl _ _ _).trans rfl
theorem e_134_18 (xs : List Int) (p : Nat) (v1 : Int) (v2 : Int) (v3 : Int) (v4 : Int) (h : zH) : zx zblk xs 134 18 [some (.inr (.inr (some p))), some (.inl v1), some (.inl v2), some (.inl v3), some (.inl v4)] [] h = (zgi h (some p) 7 5 fun f1 => (if zw f1 ≤ zw v4 then zx zblk xs 134 90 [none, none, some (.inl v2)] [] h else (zck h (some p) 7 (zci (zx zblk xs 132 0 [some (.inr (.inr (some p))), some (.inl v1), some (.inl v4)] [] h) fun r3 h2 => (if zw v4 = zw v1 then zx zblk xs 134 57 [some (.inr (.inr (some p))), some (.inl v1), some (.inl v2), some (.inl v3), some (.inl v4), some (.inl r3)] [] h2 else (if zw v2 = zw (-1) then zx zblk xs 134 53 [some (.inr (.inr (some p))), some (.inl v1), some (.inl v2), some (.inl v3), some (.inl v4), some (.inl r3)] [] h2 else (if zw v3 ≤ zw r3 then zx zblk xs 134 57 [some (.inr (.inr (some p))), some (.inl v1), some (.inl v2), some (.inl v3), some (.inl v4), some (.inl r3)] [] h2 else zx zblk xs 134 53 [some (.inr (.inr (some p))), some (.inl v1), some (.inl v2), some (.inl v3), some (.inl v4), some (.inl r3)] [] h2))))))) := (zx_unfold zblk xs 134 18 _ rfl _ _ _).trans rfl
theorem e_134_53 (xs : List Int) (p : Nat) (v1 : Int) (v2 : Int) (v3 : Int) (v4 : Int) (v5 : Int) (h : zH) : zx zblk xs 134 53 [some (.inr (.inr (some p))), some (.inl v1), some (.inl v2), some (.inl v3), some (.inl v4), some (.inl v5)] [] h = zx zblk xs 134 58 [some (.inr (.inr (some p))), some (.inl v1), some (.inl v2), some (.inl v3), some (.inl v4), some (.inl v5)] [.inl 1] h := (zx_unfold zblk xs 134 53 _ rfl _ _ _).trans rfl
theorem e_134_57 (xs : List Int) (p : Nat) (v1 : Int) (v2 : Int) (v3 : Int) (v4 : Int) (v5 : Int) (h : zH) : zx zblk xs 134 57 [some (.inr (.inr (some p))), some (.inl v1), some (.inl v2), some (.inl v3), some (.inl v4), some (.inl v5)] [] h = zx zblk xs 134 58 [some (.inr (.inr (some p))), some (.inl v1), some (.inl v2), some (.inl v3), some (.inl v4), some (.inl v5)] [.inl 0] h := (zx_unfold zblk xs 134 57 _ rfl _ _ _).trans rfl
theorem e_134_58 (xs : List Int) (p : Nat) (v1 : Int) (v2 : Int) (v3 : Int) (v4 : Int) (v5 : Int) (s0 : Int) (h : zH) : zx zblk xs 134 58 [some (.inr (.inr (some p))), some (.inl v1), some (.inl v2), some (.inl v3), some (.inl v4), some (.inl v5)] [.inl s0] h = (if zw s0 = 0 then zx zblk xs 134 70 [some (.inr (.inr (some p))), some (.inl v1), some (.inl v2), some (.inl v3), some (.inl v4), some (.inl v5), some (.inl s0)] [] h else zx zblk xs 134 71 [some (.inr (.inr (some p))), some (.inl v1), none, some (.inl v3), some (.inl v4), some (.inl v5), some (.inl s0)] [.inl v4] h) := (zx_unfold zblk xs 134 58 _ rfl _ _ _).trans rfl
theorem e_134_70 (xs : List Int) (p : Nat) (v1 : Int) (v2 : Int) (v3 : Int) (v4 : Int) (v5 : Int) (v6 : Int) (h : zH) : zx zblk xs 134 70 [some (.inr (.inr (some p))), some (.inl v1), some (.inl v2), some (.inl v3), some (.inl v4), some (.inl v5), some (.inl v6)] [] h = zx zblk xs 134 71 [some (.inr (.inr (some p))), some (.inl v1), none, some (.inl v3), some (.inl v4), some (.inl v5), some (.inl v6)] [.inl v2] h := (zx_unfold zblk xs 134 70 _ rfl _ _ _).trans rfl
theorem e_134_71 (xs : List Int) (p : Nat) (v1 : Int) (v3 : Int) (v4 : Int) (v5 : Int) (v6 : Int) (s0 : Int) (h : zH) : zx zblk xs 134 71 [some (.inr (.inr (some p))), some (.inl v1), none, some (.inl v3), some (.inl v4), some (.inl v5), some (.inl v6)] [.inl s0] h = (if zw v6 = 0 then zx zblk xs 134 82 [some (.inr (.inr (some p))), some (.inl v1), some (.inl s0), some (.inl v3), some (.inl v4)] [] h else zx zblk xs 134 83 [some (.inr (.inr (some p))), some (.inl v1), some (.inl s0), none, some (.inl v4)] [.inl v5] h) := (zx_unfold zblk xs 134 71 _ rfl _ _ _).trans rfl
theorem e_134_82 (xs : List Int) (p : Nat) (v1 : Int) (v2 : Int) (v3 : Int) (v4 : Int) (h : zH) : zx zblk xs 134 82 [some (.inr (.inr (some p))), some (.inl v1), some (.inl v2), some (.inl v3), some (.inl v4)] [] h = zx zblk xs 134 83 [some (.inr (.inr (some p))), some (.inl v1), some (.inl v2), none, some (.inl v4)] [.inl v3] h := (zx_unfold zblk xs 134 82 _ rfl _ _ _).trans rfl
theorem e_134_83 (xs : List Int) (p : Nat) (v1 : Int) (v2 : Int) (v4 : Int) (s0 : Int) (h : zH) : zx zblk xs 134 83 [some (.inr (.inr (some p))), some (.inl v1), some (.inl v2), none, some (.inl v4)] [.inl s0] h = zx zblk xs 134 18 [some (.inr (.inr (some p))), some (.inl v1), some (.inl v2), some (.inl s0), some (.inl (v4 + 1))] [] h := (zx_unfold zblk xs 134 83 _ rfl _ _ _).trans rfl
theorem e_134_90 (xs : List Int) (v2 : Int) (h : zH) : zx zblk xs 134 90 [none, none, some (.inl v2)] [] h = some (some (.inl v2), h) := (zx_unfold zblk xs 134 90 _ rfl _ _ _).trans rfl
/-- MindReadersModel.luck(IIII)J -/
theorem e_135_0 (xs : List Int) (p : Nat) (v1 : Int) (v2 : Int) (v3 : Int) (v4 : Int) (h : zH) : zx zblk xs 135 0 [some (.inr (.inr (some p))), some (.inl v1), some (.inl v2), some (.inl v3), some (.inl v4)] [] h = (zci (zx zblk xs 67 0 [some (.inr (.inl (zw v1))), none, some (.inr (.inl 1)), none, some (.inr (.inl 12)), none] [] h) fun r2 h1 => (if zw r2 = 0 then zx zblk xs 135 45 [] [] h1 else (zci (zx zblk xs 67 0 [some (.inr (.inl (zw v2))), none, some (.inr (.inl 2)), none, some (.inr (.inl 9)), none] [] h1) fun r4 h3 => (if zw r4 = 0 then zx zblk xs 135 45 [] [] h3 else (zci (zx zblk xs 67 0 [some (.inr (.inl (zw v3))), none, some (.inr (.inl 0)), none, some (.inr (.inl (zw v1))), none] [] h3) fun r6 h5 => (if zw r6 = 0 then zx zblk xs 135 45 [] [] h5 else (zci (zx zblk xs 108 0 [some (.inl v4)] [] h5) fun r8 h7 => (if zw r8 ≠ 0 then zx zblk xs 135 49 [some (.inr (.inr (some p))), some (.inl v1), some (.inl v2), some (.inl v3), some (.inl v4)] [] h7 else zx zblk xs 135 45 [] [] h7)))))))) := (zx_unfold zblk xs 135 0 _ rfl _ _ _).trans rfl
theorem e_135_45 (xs : List Int)  (h : zH) : zx zblk xs 135 45 [] [] h = some (some (.inr (.inl (-102))), h) := (zx_unfold zblk xs 135 45 _ rfl _ _ _).trans rfl
theorem e_135_49 (xs : List Int) (p : Nat) (v1 : Int) (v2 : Int) (v3 : Int) (v4 : Int) (h : zH) : zx zblk xs 135 49 [some (.inr (.inr (some p))), some (.inl v1), some (.inl v2), some (.inl v3), some (.inl v4)] [] h = zx zblk xs 135 52 [some (.inr (.inr (some p))), some (.inl v1), some (.inl v2), some (.inl v3), some (.inl v4), some (.inl 0)] [] h := (zx_unfold zblk xs 135 49 _ rfl _ _ _).trans rfl
theorem e_135_52 (xs : List Int) (p : Nat) (v1 : Int) (v2 : Int) (v3 : Int) (v4 : Int) (v5 : Int) (h : zH) : zx zblk xs 135 52 [some (.inr (.inr (some p))), some (.inl v1), some (.inl v2), some (.inl v3), some (.inl v4), some (.inl v5)] [] h = (if zw 13 ≤ zw v5 then zx zblk xs 135 82 [some (.inr (.inr (some p))), some (.inl v1), some (.inl v2), some (.inl v3), some (.inl v4)] [] h else (zgr h (some p) 7 20 fun f1 => (if zw v5 ≠ 0 then zx zblk xs 135 74 [some (.inr (.inr (some p))), some (.inl v1), some (.inl v2), some (.inl v3), some (.inl v4), some (.inl v5)] [.inl v5, .inr (.inr f1)] h else zx zblk xs 135 75 [some (.inr (.inr (some p))), some (.inl v1), some (.inl v2), some (.inl v3), some (.inl v4), some (.inl v5)] [.inr (.inl 1), .inl v5, .inr (.inr f1)] h))) := (zx_unfold zblk xs 135 52 _ rfl _ _ _).trans rfl
theorem e_135_74 (xs : List Int) (p : Nat) (v1 : Int) (v2 : Int) (v3 : Int) (v4 : Int) (v5 : Int) (s0 : Option Nat) (s1 : Int) (h : zH) : zx zblk xs 135 74 [some (.inr (.inr (some p))), some (.inl v1), some (.inl v2), some (.inl v3), some (.inl v4), some (.inl v5)] [.inl s1, .inr (.inr s0)] h = zx zblk xs 135 75 [some (.inr (.inr (some p))), some (.inl v1), some (.inl v2), some (.inl v3), some (.inl v4), some (.inl v5)] [.inr (.inl 0), .inl s1, .inr (.inr s0)] h := (zx_unfold zblk xs 135 74 _ rfl _ _ _).trans rfl
theorem e_135_75 (xs : List Int) (p : Nat) (v1 : Int) (v2 : Int) (v3 : Int) (v4 : Int) (v5 : Int) (s0 : Option Nat) (s1 : Int) (s2 : Int) (h : zH) : zx zblk xs 135 75 [some (.inr (.inr (some p))), some (.inl v1), some (.inl v2), some (.inl v3), some (.inl v4), some (.inl v5)] [.inr (.inl s2), .inl s1, .inr (.inr s0)] h = (zst h s0 101 s1 (.inr (.inl s2)) fun h1 => zx zblk xs 135 52 [some (.inr (.inr (some p))), some (.inl v1), some (.inl v2), some (.inl v3), some (.inl v4), some (.inl (v5 + 1))] [] h1) := (zx_unfold zblk xs 135 75 _ rfl _ _ _).trans rfl
theorem e_135_82 (xs : List Int) (p : Nat) (v1 : Int) (v2 : Int) (v3 : Int) (v4 : Int) (h : zH) : zx zblk xs 135 82 [some (.inr (.inr (some p))), some (.inl v1), some (.inl v2), some (.inl v3), some (.inl v4)] [] h = zx zblk xs 135 88 [some (.inr (.inr (some p))), some (.inl v1), some (.inl v2), some (.inl v3), some (.inl v4), some (.inr (.inl 1)), none, some (.inl 0)] [] h := (zx_unfold zblk xs 135 82 _ rfl _ _ _).trans rfl
theorem e_135_88 (xs : List Int) (p : Nat) (v1 : Int) (v2 : Int) (v3 : Int) (v4 : Int) (v5 : Int) (v7 : Int) (h : zH) : zx zblk xs 135 88 [some (.inr (.inr (some p))), some (.inl v1), some (.inl v2), some (.inl v3), some (.inl v4), some (.inr (.inl v5)), none, some (.inl v7)] [] h = (if zw v1 ≤ zw v7 then zx zblk xs 135 159 [some (.inr (.inr (some p))), some (.inl v1), none, some (.inl v3), some (.inl v4), some (.inr (.inl v5))] [] h else zx zblk xs 135 104 [some (.inr (.inr (some p))), some (.inl v1), some (.inl v2), some (.inl v3), some (.inl v4), some (.inr (.inl (v5 * (zw v2)))), none, some (.inl v7), some (.inl v1)] [] h) := (zx_unfold zblk xs 135 88 _ rfl _ _ _).trans rfl
theorem e_135_104 (xs : List Int) (p : Nat) (v1 : Int) (v2 : Int) (v3 : Int) (v4 : Int) (v5 : Int) (v7 : Int) (v8 : Int) (h : zH) : zx zblk xs 135 104 [some (.inr (.inr (some p))), some (.inl v1), some (.inl v2), some (.inl v3), some (.inl v4), some (.inr (.inl v5)), none, some (.inl v7), some (.inl v8)] [] h = (if zw v8 < 0 then zx zblk xs 135 153 [some (.inr (.inr (some p))), some (.inl v1), some (.inl v2), some (.inl v3), some (.inl v4), some (.inr (.inl v5)), none, some (.inl v7)] [] h else (zgr h (some p) 7 20 fun f1 => (zgr h (some p) 7 20 fun f2 => (zal xs h f2 v8 fun a3 => (if zw v8 ≤ 0 then zx zblk xs 135 144 [some (.inr (.inr (some p))), some (.inl v1), some (.inl v2), some (.inl v3), some (.inl v4), some (.inr (.inl v5)), none, some (.inl v7), some (.inl v8)] [.inr (.inl (a3 * (zw (v2 - 1)))), .inl v8, .inr (.inr f1)] h else (zgr h (some p) 7 20 fun f4 => (zal xs h f4 (v8 - 1) fun a5 => zx zblk xs 135 145 [some (.inr (.inr (some p))), some (.inl v1), some (.inl v2), some (.inl v3), some (.inl v4), some (.inr (.inl v5)), none, some (.inl v7), some (.inl v8)] [.inr (.inl a5), .inr (.inl (a3 * (zw (v2 - 1)))), .inl v8, .inr (.inr f1)] h))))))) := (zx_unfold zblk xs 135 104 _ rfl _ _ _).trans rfl
theorem e_135_144 (xs : List Int) (p : Nat) (v1 : Int) (v2 : Int) (v3 : Int) (v4 : Int) (v5 : Int) (v7 : Int) (v8 : Int) (s0 : Option Nat) (s1 : Int) (s2 : Int) (h : zH) : zx zblk xs 135 144 [some (.inr (.inr (some p))), some (.inl v1), some (.inl v2), some (.inl v3), some (.inl v4), some (.inr (.inl v5)), none, some (.inl v7), some (.inl v8)] [.inr (.inl s2), .inl s1, .inr (.inr s0)] h = zx zblk xs 135 145 [some (.inr (.inr (some p))), some (.inl v1), some (.inl v2), some (.inl v3), some (.inl v4), some (.inr (.inl v5)), none, some (.inl v7), some (.inl v8)] [.inr (.inl 0), .inr (.inl s2), .inl s1, .inr (.inr s0)] h := (zx_unfold zblk xs 135 144 _ rfl _ _ _).trans rfl
theorem e_135_145 (xs : List Int) (p : Nat) (v1 : Int) (v2 : Int) (v3 : Int) (v4 : Int) (v5 : Int) (v7 : Int) (v8 : Int) (s0 : Option Nat) (s1 : Int) (s2 : Int) (s3 : Int) (h : zH) : zx zblk xs 135 145 [some (.inr (.inr (some p))), some (.inl v1), some (.inl v2), some (.inl v3), some (.inl v4), some (.inr (.inl v5)), none, some (.inl v7), some (.inl v8)] [.inr (.inl s3), .inr (.inl s2), .inl s1, .inr (.inr s0)] h = (zst h s0 101 s1 (.inr (.inl (s2 + s3))) fun h1 => zx zblk xs 135 104 [some (.inr (.inr (some p))), some (.inl v1), some (.inl v2), some (.inl v3), some (.inl v4), some (.inr (.inl v5)), none, some (.inl v7), some (.inl (v8 + (-1)))] [] h1) := (zx_unfold zblk xs 135 145 _ rfl _ _ _).trans rfl
theorem e_135_153 (xs : List Int) (p : Nat) (v1 : Int) (v2 : Int) (v3 : Int) (v4 : Int) (v5 : Int) (v7 : Int) (h : zH) : zx zblk xs 135 153 [some (.inr (.inr (some p))), some (.inl v1), some (.inl v2), some (.inl v3), some (.inl v4), some (.inr (.inl v5)), none, some (.inl v7)] [] h = zx zblk xs 135 88 [some (.inr (.inr (some p))), some (.inl v1), some (.inl v2), some (.inl v3), some (.inl v4), some (.inr (.inl v5)), none, some (.inl (v7 + 1))] [] h := (zx_unfold zblk xs 135 153 _ rfl _ _ _).trans rfl
theorem e_135_159 (xs : List Int) (p : Nat) (v1 : Int) (v3 : Int) (v4 : Int) (v5 : Int) (h : zH) : zx zblk xs 135 159 [some (.inr (.inr (some p))), some (.inl v1), none, some (.inl v3), some (.inl v4), some (.inr (.inl v5))] [] h = zx zblk xs 135 165 [some (.inr (.inr (some p))), some (.inl v1), none, none, some (.inl v4), some (.inr (.inl v5)), none, some (.inr (.inl 0)), none, some (.inl v3)] [] h := (zx_unfold zblk xs 135 159 _ rfl _ _ _).trans rfl
theorem e_135_165 (xs : List Int) (p : Nat) (v1 : Int) (v4 : Int) (v5 : Int) (v7 : Int) (v9 : Int) (h : zH) : zx zblk xs 135 165 [some (.inr (.inr (some p))), some (.inl v1), none, none, some (.inl v4), some (.inr (.inl v5)), none, some (.inr (.inl v7)), none, some (.inl v9)] [] h = (if zw v1 < zw v9 then zx zblk xs 135 189 [none, none, none, none, some (.inl v4), some (.inr (.inl v5)), none, some (.inr (.inl v7))] [] h else (zgr h (some p) 7 20 fun f1 => (zal xs h f1 v9 fun a2 => zx zblk xs 135 165 [some (.inr (.inr (some p))), some (.inl v1), none, none, some (.inl v4), some (.inr (.inl v5)), none, some (.inr (.inl (v7 + a2))), none, some (.inl (v9 + 1))] [] h))) := (zx_unfold zblk xs 135 165 _ rfl _ _ _).trans rfl
theorem e_135_189 (xs : List Int) (v4 : Int) (v5 : Int) (v7 : Int) (h : zH) : zx zblk xs 135 189 [none, none, none, none, some (.inl v4), some (.inr (.inl v5)), none, some (.inr (.inl v7))] [] h = (zcl (zx zblk xs 107 0 [some (.inr (.inl v7)), none, some (.inr (.inl v5)), none, some (.inl v4)] [] h) fun r2 h1 => some (some (.inr (.inl r2)), h1)) := (zx_unfold zblk xs 135 189 _ rfl _ _ _).trans rfl
/-- MindReadersModel.leftOf(II)I -/
theorem e_136_0 (xs : List Int) (p : Nat) (v1 : Int) (v2 : Int) (h : zH) : zx zblk xs 136 0 [some (.inr (.inr (some p))), some (.inl v1), some (.inl v2)] [] h = (zck h (some p) 7 (zcv (zx zblk xs 87 0 [some (.inr (.inr (some p))), some (.inl v1), some (.inl v2)] [] h) fun h1 => zx zblk xs 136 11 [some (.inr (.inr (some p))), some (.inl v1), none, some (.inl 0), some (.inl 0)] [] h1)) := (zx_unfold zblk xs 136 0 _ rfl _ _ _).trans rfl
theorem e_136_11 (xs : List Int) (p : Nat) (v1 : Int) (v3 : Int) (v4 : Int) (h : zH) : zx zblk xs 136 11 [some (.inr (.inr (some p))), some (.inl v1), none, some (.inl v3), some (.inl v4)] [] h = (zgr h (some p) 7 6 fun f1 => (zai xs h f1 v1 fun a2 => (if zw a2 ≤ zw v4 then zx zblk xs 136 83 [none, none, none, some (.inl v3)] [] h else zx zblk xs 136 28 [some (.inr (.inr (some p))), some (.inl v1), none, some (.inl v3), some (.inl v4), some (.inl 1), some (.inl 0)] [] h))) := (zx_unfold zblk xs 136 11 _ rfl _ _ _).trans rfl
theorem e_136_28 (xs : List Int) (p : Nat) (v1 : Int) (v3 : Int) (v4 : Int) (v5 : Int) (v6 : Int) (h : zH) : zx zblk xs 136 28 [some (.inr (.inr (some p))), some (.inl v1), none, some (.inl v3), some (.inl v4), some (.inl v5), some (.inl v6)] [] h = (if zw v4 ≤ zw v6 then zx zblk xs 136 64 [some (.inr (.inr (some p))), some (.inl v1), none, some (.inl v3), some (.inl v4), some (.inl v5)] [] h else (if zw v5 = 0 then zx zblk xs 136 55 [some (.inr (.inr (some p))), some (.inl v1), none, some (.inl v3), some (.inl v4), none, some (.inl v6)] [] h else (zck h (some p) 7 (zci (zx zblk xs 92 0 [some (.inr (.inr (some p))), some (.inl v4), some (.inl v6)] [] h) fun r2 h1 => (if zw r2 ≠ 0 then zx zblk xs 136 55 [some (.inr (.inr (some p))), some (.inl v1), none, some (.inl v3), some (.inl v4), none, some (.inl v6)] [] h1 else zx zblk xs 136 56 [some (.inr (.inr (some p))), some (.inl v1), none, some (.inl v3), some (.inl v4), none, some (.inl v6)] [.inl 1] h1))))) := (zx_unfold zblk xs 136 28 _ rfl _ _ _).trans rfl
theorem e_136_55 (xs : List Int) (p : Nat) (v1 : Int) (v3 : Int) (v4 : Int) (v6 : Int) (h : zH) : zx zblk xs 136 55 [some (.inr (.inr (some p))), some (.inl v1), none, some (.inl v3), some (.inl v4), none, some (.inl v6)] [] h = zx zblk xs 136 56 [some (.inr (.inr (some p))), some (.inl v1), none, some (.inl v3), some (.inl v4), none, some (.inl v6)] [.inl 0] h := (zx_unfold zblk xs 136 55 _ rfl _ _ _).trans rfl
theorem e_136_56 (xs : List Int) (p : Nat) (v1 : Int) (v3 : Int) (v4 : Int) (v6 : Int) (s0 : Int) (h : zH) : zx zblk xs 136 56 [some (.inr (.inr (some p))), some (.inl v1), none, some (.inl v3), some (.inl v4), none, some (.inl v6)] [.inl s0] h = zx zblk xs 136 28 [some (.inr (.inr (some p))), some (.inl v1), none, some (.inl v3), some (.inl v4), some (.inl s0), some (.inl (v6 + 1))] [] h := (zx_unfold zblk xs 136 56 _ rfl _ _ _).trans rfl
theorem e_136_64 (xs : List Int) (p : Nat) (v1 : Int) (v3 : Int) (v4 : Int) (v5 : Int) (h : zH) : zx zblk xs 136 64 [some (.inr (.inr (some p))), some (.inl v1), none, some (.inl v3), some (.inl v4), some (.inl v5)] [] h = (if zw v5 = 0 then zx zblk xs 136 74 [some (.inr (.inr (some p))), some (.inl v1), none, none, some (.inl v4)] [.inl v3] h else zx zblk xs 136 75 [some (.inr (.inr (some p))), some (.inl v1), none, none, some (.inl v4)] [.inl 1, .inl v3] h) := (zx_unfold zblk xs 136 64 _ rfl _ _ _).trans rfl
theorem e_136_74 (xs : List Int) (p : Nat) (v1 : Int) (v4 : Int) (s0 : Int) (h : zH) : zx zblk xs 136 74 [some (.inr (.inr (some p))), some (.inl v1), none, none, some (.inl v4)] [.inl s0] h = zx zblk xs 136 75 [some (.inr (.inr (some p))), some (.inl v1), none, none, some (.inl v4)] [.inl 0, .inl s0] h := (zx_unfold zblk xs 136 74 _ rfl _ _ _).trans rfl
theorem e_136_75 (xs : List Int) (p : Nat) (v1 : Int) (v4 : Int) (s0 : Int) (s1 : Int) (h : zH) : zx zblk xs 136 75 [some (.inr (.inr (some p))), some (.inl v1), none, none, some (.inl v4)] [.inl s1, .inl s0] h = zx zblk xs 136 11 [some (.inr (.inr (some p))), some (.inl v1), none, some (.inl (s0 + s1)), some (.inl (v4 + 1))] [] h := (zx_unfold zblk xs 136 75 _ rfl _ _ _).trans rfl
theorem e_136_83 (xs : List Int) (v3 : Int) (h : zH) : zx zblk xs 136 83 [none, none, none, some (.inl v3)] [] h = some (some (.inl v3), h) := (zx_unfold zblk xs 136 83 _ rfl _ _ _).trans rfl
/-- MindReadersModel.left(II)I -/
theorem e_137_0 (xs : List Int) (p : Nat) (v1 : Int) (v2 : Int) (h : zH) : zx zblk xs 137 0 [some (.inr (.inr (some p))), some (.inl v1), some (.inl v2)] [] h = (zck h (some p) 7 (zci (zx zblk xs 74 0 [some (.inr (.inr (some p))), some (.inl v1)] [] h) fun r2 h1 => (if zw r2 ≠ 0 then zx zblk xs 137 11 [some (.inr (.inr (some p))), some (.inl v1), some (.inl v2)] [] h1 else some (some (.inl (-101)), h1)))) := (zx_unfold zblk xs 137 0 _ rfl _ _ _).trans rfl
theorem e_137_11 (xs : List Int) (p : Nat) (v1 : Int) (v2 : Int) (h : zH) : zx zblk xs 137 11 [some (.inr (.inr (some p))), some (.inl v1), some (.inl v2)] [] h = (zci (zx zblk xs 67 0 [some (.inr (.inl (zw v2))), none, some (.inr (.inl 0)), none, some (.inr (.inl 255)), none] [] h) fun r2 h1 => (if zw r2 = 0 then zx zblk xs 137 32 [] [] h1 else (zck h1 (some p) 7 (zci (zx zblk xs 136 0 [some (.inr (.inr (some p))), some (.inl v1), some (.inl v2)] [] h1) fun r4 h3 => zx zblk xs 137 34 [] [.inl r4] h3)))) := (zx_unfold zblk xs 137 11 _ rfl _ _ _).trans rfl
theorem e_137_32 (xs : List Int)  (h : zH) : zx zblk xs 137 32 [] [] h = zx zblk xs 137 34 [] [.inl (-102)] h := (zx_unfold zblk xs 137 32 _ rfl _ _ _).trans rfl
theorem e_137_34 (xs : List Int) (s0 : Int) (h : zH) : zx zblk xs 137 34 [] [.inl s0] h = some (some (.inl s0), h) := (zx_unfold zblk xs 137 34 _ rfl _ _ _).trans rfl
/-- MindReadersModel.stopOf(I)I -/
theorem e_138_0 (xs : List Int) (p : Nat) (v1 : Int) (h : zH) : zx zblk xs 138 0 [some (.inr (.inr (some p))), some (.inl v1)] [] h = zx zblk xs 138 10 [some (.inr (.inr (some p))), some (.inl v1), some (.inl 255), some (.inl 8), some (.inl 0)] [] h := (zx_unfold zblk xs 138 0 _ rfl _ _ _).trans rfl
theorem e_138_10 (xs : List Int) (p : Nat) (v1 : Int) (v2 : Int) (v3 : Int) (v4 : Int) (h : zH) : zx zblk xs 138 10 [some (.inr (.inr (some p))), some (.inl v1), some (.inl v2), some (.inl v3), some (.inl v4)] [] h = (if zw 256 ≤ zw v4 then zx zblk xs 138 78 [none, none, some (.inl v2)] [] h else zx zblk xs 138 24 [some (.inr (.inr (some p))), some (.inl v1), some (.inl v2), some (.inl v3), some (.inl v4), some (.inl 0), some (.inl 0)] [] h) := (zx_unfold zblk xs 138 10 _ rfl _ _ _).trans rfl
theorem e_138_24 (xs : List Int) (p : Nat) (v1 : Int) (v2 : Int) (v3 : Int) (v4 : Int) (v5 : Int) (v6 : Int) (h : zH) : zx zblk xs 138 24 [some (.inr (.inr (some p))), some (.inl v1), some (.inl v2), some (.inl v3), some (.inl v4), some (.inl v5), some (.inl v6)] [] h = (if zw 8 ≤ zw v6 then zx zblk xs 138 49 [some (.inr (.inr (some p))), some (.inl v1), some (.inl v2), some (.inl v3), some (.inl v4), some (.inl v5)] [] h else zx zblk xs 138 24 [some (.inr (.inr (some p))), some (.inl v1), some (.inl v2), some (.inl v3), some (.inl v4), some (.inl (v5 + (zand (zshr v4 v6) 1))), some (.inl (v6 + 1))] [] h) := (zx_unfold zblk xs 138 24 _ rfl _ _ _).trans rfl
theorem e_138_49 (xs : List Int) (p : Nat) (v1 : Int) (v2 : Int) (v3 : Int) (v4 : Int) (v5 : Int) (h : zH) : zx zblk xs 138 49 [some (.inr (.inr (some p))), some (.inl v1), some (.inl v2), some (.inl v3), some (.inl v4), some (.inl v5)] [] h = (if zw v3 ≤ zw v5 then zx zblk xs 138 72 [some (.inr (.inr (some p))), some (.inl v1), some (.inl v2), some (.inl v3), some (.inl v4)] [] h else (zck h (some p) 7 (zci (zx zblk xs 136 0 [some (.inr (.inr (some p))), some (.inl v1), some (.inl v4)] [] h) fun r2 h1 => (if zw 2 ≤ zw r2 then zx zblk xs 138 72 [some (.inr (.inr (some p))), some (.inl v1), some (.inl v2), some (.inl v3), some (.inl v4)] [] h1 else zx zblk xs 138 72 [some (.inr (.inr (some p))), some (.inl v1), some (.inl v4), some (.inl v5), some (.inl v4)] [] h1)))) := (zx_unfold zblk xs 138 49 _ rfl _ _ _).trans rfl
theorem e_138_72 (xs : List Int) (p : Nat) (v1 : Int) (v2 : Int) (v3 : Int) (v4 : Int) (h : zH) : zx zblk xs 138 72 [some (.inr (.inr (some p))), some (.inl v1), some (.inl v2), some (.inl v3), some (.inl v4)] [] h = zx zblk xs 138 10 [some (.inr (.inr (some p))), some (.inl v1), some (.inl v2), some (.inl v3), some (.inl (v4 + 1))] [] h := (zx_unfold zblk xs 138 72 _ rfl _ _ _).trans rfl
theorem e_138_78 (xs : List Int) (v2 : Int) (h : zH) : zx zblk xs 138 78 [none, none, some (.inl v2)] [] h = some (some (.inl v2), h) := (zx_unfold zblk xs 138 78 _ rfl _ _ _).trans rfl
/-- MindReadersModel.stop(I)I -/
theorem e_139_0 (xs : List Int) (p : Nat) (v1 : Int) (h : zH) : zx zblk xs 139 0 [some (.inr (.inr (some p))), some (.inl v1)] [] h = (zck h (some p) 7 (zci (zx zblk xs 74 0 [some (.inr (.inr (some p))), some (.inl v1)] [] h) fun r2 h1 => (if zw r2 = 0 then zx zblk xs 139 16 [] [] h1 else (zck h1 (some p) 7 (zci (zx zblk xs 138 0 [some (.inr (.inr (some p))), some (.inl v1)] [] h1) fun r4 h3 => zx zblk xs 139 18 [] [.inl r4] h3))))) := (zx_unfold zblk xs 139 0 _ rfl _ _ _).trans rfl
theorem e_139_16 (xs : List Int)  (h : zH) : zx zblk xs 139 16 [] [] h = zx zblk xs 139 18 [] [.inl (-101)] h := (zx_unfold zblk xs 139 16 _ rfl _ _ _).trans rfl
theorem e_139_18 (xs : List Int) (s0 : Int) (h : zH) : zx zblk xs 139 18 [] [.inl s0] h = some (some (.inl s0), h) := (zx_unfold zblk xs 139 18 _ rfl _ _ _).trans rfl
/-- MindReadersModel.image()I -/
theorem e_140_0 (xs : List Int) (p : Nat) (h : zH) : zx zblk xs 140 0 [some (.inr (.inr (some p)))] [] h = zx zblk xs 140 2 [some (.inr (.inr (some p))), some (.inl 0)] [] h := (zx_unfold zblk xs 140 0 _ rfl _ _ _).trans rfl
theorem e_140_2 (xs : List Int) (p : Nat) (v1 : Int) (h : zH) : zx zblk xs 140 2 [some (.inr (.inr (some p))), some (.inl v1)] [] h = (if zw 8 ≤ zw v1 then zx zblk xs 140 26 [some (.inr (.inr (some p)))] [] h else (zgr h (some p) 7 24 fun f1 => (zgr h (some p) 7 11 fun f2 => (zai xs h f2 v1 fun a3 => (zst h f1 100 v1 (.inl a3) fun h4 => zx zblk xs 140 2 [some (.inr (.inr (some p))), some (.inl (v1 + 1))] [] h4))))) := (zx_unfold zblk xs 140 2 _ rfl _ _ _).trans rfl
theorem e_140_26 (xs : List Int) (p : Nat) (h : zH) : zx zblk xs 140 26 [some (.inr (.inr (some p)))] [] h = zx zblk xs 140 28 [some (.inr (.inr (some p))), some (.inl 0)] [] h := (zx_unfold zblk xs 140 26 _ rfl _ _ _).trans rfl
theorem e_140_28 (xs : List Int) (p : Nat) (v1 : Int) (h : zH) : zx zblk xs 140 28 [some (.inr (.inr (some p))), some (.inl v1)] [] h = (if zw 100 ≤ zw v1 then zx zblk xs 140 52 [some (.inr (.inr (some p)))] [] h else (zgr h (some p) 7 25 fun f1 => (zgr h (some p) 7 19 fun f2 => (zai xs h f2 v1 fun a3 => (zst h f1 100 v1 (.inl a3) fun h4 => zx zblk xs 140 28 [some (.inr (.inr (some p))), some (.inl (v1 + 1))] [] h4))))) := (zx_unfold zblk xs 140 28 _ rfl _ _ _).trans rfl
theorem e_140_52 (xs : List Int) (p : Nat) (h : zH) : zx zblk xs 140 52 [some (.inr (.inr (some p)))] [] h = (zgi h (some p) 7 18 fun f1 => (zpf h (some p) 7 23 (.inl f1) fun h2 => (zgi h2 (some p) 7 10 fun f3 => (zpf h2 (some p) 7 22 (.inl f3) fun h4 => (zgi h4 (some p) 7 10 fun f5 => some (some (.inl f5), h4)))))) := (zx_unfold zblk xs 140 52 _ rfl _ _ _).trans rfl
/-- MindReadersModel.restore()I -/
theorem e_141_0 (xs : List Int) (p : Nat) (h : zH) : zx zblk xs 141 0 [some (.inr (.inr (some p)))] [] h = (zgi h (some p) 7 22 fun f1 => (if zw f1 ≠ zw (-1) then zx zblk xs 141 11 [some (.inr (.inr (some p)))] [] h else some (some (.inl (-103)), h))) := (zx_unfold zblk xs 141 0 _ rfl _ _ _).trans rfl
theorem e_141_11 (xs : List Int) (p : Nat) (h : zH) : zx zblk xs 141 11 [some (.inr (.inr (some p)))] [] h = zx zblk xs 141 13 [some (.inr (.inr (some p))), some (.inl 0)] [] h := (zx_unfold zblk xs 141 11 _ rfl _ _ _).trans rfl
theorem e_141_13 (xs : List Int) (p : Nat) (v1 : Int) (h : zH) : zx zblk xs 141 13 [some (.inr (.inr (some p))), some (.inl v1)] [] h = (zgi h (some p) 7 22 fun f1 => (if zw f1 ≤ zw v1 then zx zblk xs 141 39 [some (.inr (.inr (some p)))] [] h else (zgr h (some p) 7 11 fun f2 => (zgr h (some p) 7 24 fun f3 => (zai xs h f3 v1 fun a4 => (zst h f2 100 v1 (.inl a4) fun h5 => zx zblk xs 141 13 [some (.inr (.inr (some p))), some (.inl (v1 + 1))] [] h5)))))) := (zx_unfold zblk xs 141 13 _ rfl _ _ _).trans rfl
theorem e_141_39 (xs : List Int) (p : Nat) (h : zH) : zx zblk xs 141 39 [some (.inr (.inr (some p)))] [] h = zx zblk xs 141 41 [some (.inr (.inr (some p))), some (.inl 0)] [] h := (zx_unfold zblk xs 141 39 _ rfl _ _ _).trans rfl
theorem e_141_41 (xs : List Int) (p : Nat) (v1 : Int) (h : zH) : zx zblk xs 141 41 [some (.inr (.inr (some p))), some (.inl v1)] [] h = (if zw 100 ≤ zw v1 then zx zblk xs 141 65 [some (.inr (.inr (some p)))] [] h else (zgr h (some p) 7 19 fun f1 => (zgr h (some p) 7 25 fun f2 => (zai xs h f2 v1 fun a3 => (zst h f1 100 v1 (.inl a3) fun h4 => zx zblk xs 141 41 [some (.inr (.inr (some p))), some (.inl (v1 + 1))] [] h4))))) := (zx_unfold zblk xs 141 41 _ rfl _ _ _).trans rfl
theorem e_141_65 (xs : List Int) (p : Nat) (h : zH) : zx zblk xs 141 65 [some (.inr (.inr (some p)))] [] h = (zgi h (some p) 7 23 fun f1 => (zpf h (some p) 7 18 (.inl f1) fun h2 => (zgi h2 (some p) 7 10 fun f3 => some (some (.inl f3), h2)))) := (zx_unfold zblk xs 141 65 _ rfl _ _ _).trans rfl
/-- MindReadersModel.countOf(I)I -/
theorem e_142_0 (xs : List Int) (p : Nat) (v1 : Int) (h : zH) : zx zblk xs 142 0 [some (.inr (.inr (some p))), some (.inl v1)] [] h = (if zw v1 < 0 ∨ 5 < zw v1 then zx zblk xs 142 74 [some (.inr (.inr (some p)))] [] h else zsel ([40, 45, 50, 55, 60, 65][(zw v1 - 0).toNat]?) fun t => zx zblk xs 142 t [some (.inr (.inr (some p)))] [] h) := (zx_unfold zblk xs 142 0 _ rfl _ _ _).trans rfl
theorem e_142_40 (xs : List Int) (p : Nat) (h : zH) : zx zblk xs 142 40 [some (.inr (.inr (some p)))] [] h = (zgi h (some p) 7 8 fun f1 => some (some (.inl f1), h)) := (zx_unfold zblk xs 142 40 _ rfl _ _ _).trans rfl
theorem e_142_45 (xs : List Int) (p : Nat) (h : zH) : zx zblk xs 142 45 [some (.inr (.inr (some p)))] [] h = (zgi h (some p) 7 10 fun f1 => some (some (.inl f1), h)) := (zx_unfold zblk xs 142 45 _ rfl _ _ _).trans rfl
theorem e_142_50 (xs : List Int) (p : Nat) (h : zH) : zx zblk xs 142 50 [some (.inr (.inr (some p)))] [] h = (zgi h (some p) 7 5 fun f1 => some (some (.inl f1), h)) := (zx_unfold zblk xs 142 50 _ rfl _ _ _).trans rfl
theorem e_142_55 (xs : List Int) (p : Nat) (h : zH) : zx zblk xs 142 55 [some (.inr (.inr (some p)))] [] h = (zgi h (some p) 7 18 fun f1 => some (some (.inl f1), h)) := (zx_unfold zblk xs 142 55 _ rfl _ _ _).trans rfl
theorem e_142_60 (xs : List Int) (p : Nat) (h : zH) : zx zblk xs 142 60 [some (.inr (.inr (some p)))] [] h = (zgi h (some p) 7 1 fun f1 => some (some (.inl f1), h)) := (zx_unfold zblk xs 142 60 _ rfl _ _ _).trans rfl
theorem e_142_65 (xs : List Int) (p : Nat) (h : zH) : zx zblk xs 142 65 [some (.inr (.inr (some p)))] [] h = (zgi h (some p) 7 10 fun f1 => (zck h (some p) 7 (zci (zx zblk xs 109 0 [some (.inr (.inr (some p))), some (.inl f1)] [] h) fun r3 h2 => some (some (.inl r3), h2)))) := (zx_unfold zblk xs 142 65 _ rfl _ _ _).trans rfl
theorem e_142_74 (xs : List Int) (p : Nat) (h : zH) : zx zblk xs 142 74 [some (.inr (.inr (some p)))] [] h = some (some (.inl (-102)), h) := (zx_unfold zblk xs 142 74 _ rfl _ _ _).trans rfl
/-- MindReadersModel.count(I)I -/
theorem e_143_0 (xs : List Int) (p : Nat) (v1 : Int) (h : zH) : zx zblk xs 143 0 [some (.inr (.inr (some p))), some (.inl v1)] [] h = (zck h (some p) 7 (zci (zx zblk xs 142 0 [some (.inr (.inr (some p))), some (.inl v1)] [] h) fun r2 h1 => some (some (.inl r2), h1))) := (zx_unfold zblk xs 143 0 _ rfl _ _ _).trans rfl
/-- MindReadersModel.say(J)V -/
theorem e_144_0 (xs : List Int) (p : Nat) (v1 : Int) (h : zH) : zx zblk xs 144 0 [some (.inr (.inr (some p))), some (.inr (.inl v1))] [] h = (zgl h (some p) 7 26 fun f1 => (zpf h (some p) 7 26 (.inr (.inl ((31 * f1) + v1))) fun h2 => some (none, h2))) := (zx_unfold zblk xs 144 0 _ rfl _ _ _).trans rfl
/-- MindReadersModel.sayCode(I)V -/
theorem e_145_0 (xs : List Int) (p : Nat) (v1 : Int) (h : zH) : zx zblk xs 145 0 [some (.inr (.inr (some p))), some (.inl v1)] [] h = zx zblk xs 145 2 [some (.inr (.inr (some p))), some (.inl v1), some (.inl 0)] [] h := (zx_unfold zblk xs 145 0 _ rfl _ _ _).trans rfl
theorem e_145_2 (xs : List Int) (p : Nat) (v1 : Int) (v2 : Int) (h : zH) : zx zblk xs 145 2 [some (.inr (.inr (some p))), some (.inl v1), some (.inl v2)] [] h = (zgr h (some p) 7 6 fun f1 => (zai xs h f1 v1 fun a2 => (if zw a2 ≤ zw v2 then zx zblk xs 145 70 [some (.inr (.inr (some p))), some (.inl v1)] [] h else zx zblk xs 145 14 [some (.inr (.inr (some p))), some (.inl v1), some (.inl v2), some (.inl 0)] [] h))) := (zx_unfold zblk xs 145 2 _ rfl _ _ _).trans rfl
theorem e_145_14 (xs : List Int) (p : Nat) (v1 : Int) (v2 : Int) (v3 : Int) (h : zH) : zx zblk xs 145 14 [some (.inr (.inr (some p))), some (.inl v1), some (.inl v2), some (.inl v3)] [] h = (if zw 6 ≤ zw v3 then zx zblk xs 145 38 [some (.inr (.inr (some p))), some (.inl v1), some (.inl v2)] [] h else (zck h (some p) 7 (zci (zx zblk xs 89 0 [some (.inr (.inr (some p))), some (.inl v1), some (.inl v2), some (.inl v3)] [] h) fun r2 h1 => (zck h1 (some p) 7 (zcv (zx zblk xs 144 0 [some (.inr (.inr (some p))), some (.inr (.inl (zw r2))), none] [] h1) fun h3 => zx zblk xs 145 14 [some (.inr (.inr (some p))), some (.inl v1), some (.inl v2), some (.inl (v3 + 1))] [] h3))))) := (zx_unfold zblk xs 145 14 _ rfl _ _ _).trans rfl
theorem e_145_38 (xs : List Int) (p : Nat) (v1 : Int) (v2 : Int) (h : zH) : zx zblk xs 145 38 [some (.inr (.inr (some p))), some (.inl v1), some (.inl v2)] [] h = (zck h (some p) 7 (zci (zx zblk xs 89 0 [some (.inr (.inr (some p))), some (.inl v1), some (.inl v2), some (.inl 10)] [] h) fun r2 h1 => (zck h1 (some p) 7 (zcv (zx zblk xs 144 0 [some (.inr (.inr (some p))), some (.inr (.inl (zw r2))), none] [] h1) fun h3 => (zck h3 (some p) 7 (zci (zx zblk xs 89 0 [some (.inr (.inr (some p))), some (.inl v1), some (.inl v2), some (.inl 30)] [] h3) fun r5 h4 => (zck h4 (some p) 7 (zcv (zx zblk xs 144 0 [some (.inr (.inr (some p))), some (.inr (.inl (zw r5))), none] [] h4) fun h6 => zx zblk xs 145 2 [some (.inr (.inr (some p))), some (.inl v1), some (.inl (v2 + 1))] [] h6)))))))) := (zx_unfold zblk xs 145 38 _ rfl _ _ _).trans rfl
theorem e_145_70 (xs : List Int) (p : Nat) (v1 : Int) (h : zH) : zx zblk xs 145 70 [some (.inr (.inr (some p))), some (.inl v1)] [] h = (zck h (some p) 7 (zci (zx zblk xs 97 0 [some (.inr (.inr (some p))), some (.inl v1)] [] h) fun r2 h1 => (if zw r2 ≠ zw (-1) then zx zblk xs 145 84 [some (.inr (.inr (some p))), some (.inl v1)] [.inr (.inr (some p))] h1 else zx zblk xs 145 85 [some (.inr (.inr (some p))), some (.inl v1)] [.inr (.inl 1), .inr (.inr (some p))] h1))) := (zx_unfold zblk xs 145 70 _ rfl _ _ _).trans rfl
theorem e_145_84 (xs : List Int) (p : Nat) (v1 : Int) (s0 : Option Nat) (h : zH) : zx zblk xs 145 84 [some (.inr (.inr (some p))), some (.inl v1)] [.inr (.inr s0)] h = zx zblk xs 145 85 [some (.inr (.inr (some p))), some (.inl v1)] [.inr (.inl 0), .inr (.inr s0)] h := (zx_unfold zblk xs 145 84 _ rfl _ _ _).trans rfl
theorem e_145_85 (xs : List Int) (p : Nat) (v1 : Int) (s0 : Option Nat) (s1 : Int) (h : zH) : zx zblk xs 145 85 [some (.inr (.inr (some p))), some (.inl v1)] [.inr (.inl s1), .inr (.inr s0)] h = (zck h s0 7 (zcv (zx zblk xs 144 0 [some (.inr (.inr s0)), some (.inr (.inl s1)), none] [] h) fun h1 => (zck h1 (some p) 7 (zci (zx zblk xs 103 0 [some (.inr (.inr (some p))), some (.inl v1)] [] h1) fun r3 h2 => (zck h2 (some p) 7 (zcv (zx zblk xs 144 0 [some (.inr (.inr (some p))), some (.inr (.inl (zw r3))), none] [] h2) fun h4 => (zck h4 (some p) 7 (zci (zx zblk xs 111 0 [some (.inr (.inr (some p))), some (.inl v1)] [] h4) fun r6 h5 => (zck h5 (some p) 7 (zcv (zx zblk xs 144 0 [some (.inr (.inr (some p))), some (.inr (.inl (zw r6))), none] [] h5) fun h7 => (zck h7 (some p) 7 (zci (zx zblk xs 119 0 [some (.inr (.inr (some p))), some (.inl v1)] [] h7) fun r9 h8 => (zck h8 (some p) 7 (zcv (zx zblk xs 144 0 [some (.inr (.inr (some p))), some (.inr (.inl (zw r9))), none] [] h8) fun h10 => (zck h10 (some p) 7 (zci (zx zblk xs 138 0 [some (.inr (.inr (some p))), some (.inl v1)] [] h10) fun r12 h11 => (zck h11 (some p) 7 (zcv (zx zblk xs 144 0 [some (.inr (.inr (some p))), some (.inr (.inl (zw r12))), none] [] h11) fun h13 => some (none, h13))))))))))))))))))) := (zx_unfold zblk xs 145 85 _ rfl _ _ _).trans rfl
/-- MindReadersModel.digest()J -/
theorem e_146_0 (xs : List Int) (p : Nat) (h : zH) : zx zblk xs 146 0 [some (.inr (.inr (some p)))] [] h = (zpf h (some p) 7 26 (.inr (.inl 479)) fun h1 => zx zblk xs 146 9 [some (.inr (.inr (some p))), some (.inl 0)] [] h1) := (zx_unfold zblk xs 146 0 _ rfl _ _ _).trans rfl
theorem e_146_9 (xs : List Int) (p : Nat) (v1 : Int) (h : zH) : zx zblk xs 146 9 [some (.inr (.inr (some p))), some (.inl v1)] [] h = (zgi h (some p) 7 8 fun f1 => (if zw (4 * f1) ≤ zw v1 then zx zblk xs 146 36 [some (.inr (.inr (some p)))] [] h else (zgr h (some p) 7 9 fun f2 => (zai xs h f2 v1 fun a3 => (zck h (some p) 7 (zcv (zx zblk xs 144 0 [some (.inr (.inr (some p))), some (.inr (.inl (zw a3))), none] [] h) fun h4 => zx zblk xs 146 9 [some (.inr (.inr (some p))), some (.inl (v1 + 1))] [] h4)))))) := (zx_unfold zblk xs 146 9 _ rfl _ _ _).trans rfl
theorem e_146_36 (xs : List Int) (p : Nat) (h : zH) : zx zblk xs 146 36 [some (.inr (.inr (some p)))] [] h = zx zblk xs 146 38 [some (.inr (.inr (some p))), some (.inl 0)] [] h := (zx_unfold zblk xs 146 36 _ rfl _ _ _).trans rfl
theorem e_146_38 (xs : List Int) (p : Nat) (v1 : Int) (h : zH) : zx zblk xs 146 38 [some (.inr (.inr (some p))), some (.inl v1)] [] h = (zgi h (some p) 7 10 fun f1 => (if zw f1 ≤ zw v1 then zx zblk xs 146 63 [some (.inr (.inr (some p)))] [] h else (zgr h (some p) 7 11 fun f2 => (zai xs h f2 v1 fun a3 => (zck h (some p) 7 (zcv (zx zblk xs 144 0 [some (.inr (.inr (some p))), some (.inr (.inl (zw a3))), none] [] h) fun h4 => zx zblk xs 146 38 [some (.inr (.inr (some p))), some (.inl (v1 + 1))] [] h4)))))) := (zx_unfold zblk xs 146 38 _ rfl _ _ _).trans rfl
theorem e_146_63 (xs : List Int) (p : Nat) (h : zH) : zx zblk xs 146 63 [some (.inr (.inr (some p)))] [] h = zx zblk xs 146 65 [some (.inr (.inr (some p))), some (.inl 0)] [] h := (zx_unfold zblk xs 146 63 _ rfl _ _ _).trans rfl
theorem e_146_65 (xs : List Int) (p : Nat) (v1 : Int) (h : zH) : zx zblk xs 146 65 [some (.inr (.inr (some p))), some (.inl v1)] [] h = (zgi h (some p) 7 5 fun f1 => (if zw f1 ≤ zw v1 then zx zblk xs 146 84 [some (.inr (.inr (some p)))] [] h else (zck h (some p) 7 (zcv (zx zblk xs 145 0 [some (.inr (.inr (some p))), some (.inl v1)] [] h) fun h2 => zx zblk xs 146 65 [some (.inr (.inr (some p))), some (.inl (v1 + 1))] [] h2)))) := (zx_unfold zblk xs 146 65 _ rfl _ _ _).trans rfl
theorem e_146_84 (xs : List Int) (p : Nat) (h : zH) : zx zblk xs 146 84 [some (.inr (.inr (some p)))] [] h = zx zblk xs 146 86 [some (.inr (.inr (some p))), some (.inl 0)] [] h := (zx_unfold zblk xs 146 84 _ rfl _ _ _).trans rfl
theorem e_146_86 (xs : List Int) (p : Nat) (v1 : Int) (h : zH) : zx zblk xs 146 86 [some (.inr (.inr (some p))), some (.inl v1)] [] h = (zgi h (some p) 7 18 fun f1 => (if zw f1 ≤ zw v1 then zx zblk xs 146 141 [some (.inr (.inr (some p)))] [] h else zx zblk xs 146 96 [some (.inr (.inr (some p))), some (.inl v1), some (.inl 0)] [] h)) := (zx_unfold zblk xs 146 86 _ rfl _ _ _).trans rfl
theorem e_146_96 (xs : List Int) (p : Nat) (v1 : Int) (v2 : Int) (h : zH) : zx zblk xs 146 96 [some (.inr (.inr (some p))), some (.inl v1), some (.inl v2)] [] h = (zgr h (some p) 7 19 fun f1 => (zai xs h f1 ((10 * v1) + 1) fun a2 => (if zw (2 + a2) ≤ zw v2 then zx zblk xs 146 135 [some (.inr (.inr (some p))), some (.inl v1)] [] h else (zgr h (some p) 7 19 fun f3 => (zai xs h f3 ((10 * v1) + v2) fun a4 => (zck h (some p) 7 (zcv (zx zblk xs 144 0 [some (.inr (.inr (some p))), some (.inr (.inl (zw a4))), none] [] h) fun h5 => zx zblk xs 146 96 [some (.inr (.inr (some p))), some (.inl v1), some (.inl (v2 + 1))] [] h5))))))) := (zx_unfold zblk xs 146 96 _ rfl _ _ _).trans rfl
theorem e_146_135 (xs : List Int) (p : Nat) (v1 : Int) (h : zH) : zx zblk xs 146 135 [some (.inr (.inr (some p))), some (.inl v1)] [] h = zx zblk xs 146 86 [some (.inr (.inr (some p))), some (.inl (v1 + 1))] [] h := (zx_unfold zblk xs 146 135 _ rfl _ _ _).trans rfl
theorem e_146_141 (xs : List Int) (p : Nat) (h : zH) : zx zblk xs 146 141 [some (.inr (.inr (some p)))] [] h = (zck h (some p) 7 (zci (zx zblk xs 127 0 [some (.inr (.inr (some p)))] [] h) fun r2 h1 => (zck h1 (some p) 7 (zcv (zx zblk xs 144 0 [some (.inr (.inr (some p))), some (.inr (.inl (zw r2))), none] [] h1) fun h3 => zx zblk xs 146 152 [some (.inr (.inr (some p))), some (.inl 0)] [] h3)))) := (zx_unfold zblk xs 146 141 _ rfl _ _ _).trans rfl
theorem e_146_152 (xs : List Int) (p : Nat) (v1 : Int) (h : zH) : zx zblk xs 146 152 [some (.inr (.inr (some p))), some (.inl v1)] [] h = (zgi h (some p) 7 1 fun f1 => (if zw f1 ≤ zw v1 then zx zblk xs 146 177 [some (.inr (.inr (some p)))] [] h else (zgr h (some p) 7 0 fun f2 => (zai xs h f2 v1 fun a3 => (zck h (some p) 7 (zcv (zx zblk xs 144 0 [some (.inr (.inr (some p))), some (.inr (.inl (zw a3))), none] [] h) fun h4 => zx zblk xs 146 152 [some (.inr (.inr (some p))), some (.inl (v1 + 1))] [] h4)))))) := (zx_unfold zblk xs 146 152 _ rfl _ _ _).trans rfl
theorem e_146_177 (xs : List Int) (p : Nat) (h : zH) : zx zblk xs 146 177 [some (.inr (.inr (some p)))] [] h = zx zblk xs 146 179 [some (.inr (.inr (some p))), some (.inl 0)] [] h := (zx_unfold zblk xs 146 177 _ rfl _ _ _).trans rfl
theorem e_146_179 (xs : List Int) (p : Nat) (v1 : Int) (h : zH) : zx zblk xs 146 179 [some (.inr (.inr (some p))), some (.inl v1)] [] h = (if zw 6 ≤ zw v1 then zx zblk xs 146 201 [some (.inr (.inr (some p)))] [] h else (zck h (some p) 7 (zci (zx zblk xs 142 0 [some (.inr (.inr (some p))), some (.inl v1)] [] h) fun r2 h1 => (zck h1 (some p) 7 (zcv (zx zblk xs 144 0 [some (.inr (.inr (some p))), some (.inr (.inl (zw r2))), none] [] h1) fun h3 => zx zblk xs 146 179 [some (.inr (.inr (some p))), some (.inl (v1 + 1))] [] h3))))) := (zx_unfold zblk xs 146 179 _ rfl _ _ _).trans rfl
theorem e_146_201 (xs : List Int) (p : Nat) (h : zH) : zx zblk xs 146 201 [some (.inr (.inr (some p)))] [] h = (zgl h (some p) 7 26 fun f1 => some (some (.inr (.inl f1)), h)) := (zx_unfold zblk xs 146 201 _ rfl _ _ _).trans rfl
end
section
/-! ===== what each block of code does (printed by a program of mine; each by rfl) ===== -/
/-- MindReadersLaw.law([I)Z -/
theorem e_0_18 (xs : List Int) (v0 : Option Nat) (v1 : Option Nat) (v2 : Option Nat) (v3 : Int) (h : zH) : zx zblk xs 0 18 [some (.inr (.inr v0)), some (.inr (.inr v1)), some (.inr (.inr v2)), some (.inl v3)] [] h = (zln xs h v0 fun n1 => (if zw (n1 - 6) < zw v3 then zx zblk xs 0 1193 [] [] h else (zai xs h v0 v3 fun a2 => (if zw (zand a2 63) < 0 ∨ 34 < zw (zand a2 63) then zx zblk xs 0 1187 [some (.inr (.inr v0)), some (.inr (.inr v1)), some (.inr (.inr v2)), some (.inl v3)] [] h else zsel ([188, 241, 254, 267, 280, 333, 366, 399, 422, 455, 498, 521, 554, 587, 610, 643, 666, 699, 732, 755, 778, 842, 865, 878, 891, 924, 958, 991, 1014, 1068, 1101, 1124, 1137, 1150, 1173][(zw (zand a2 63) - 0).toNat]?) fun t => zx zblk xs 0 t [some (.inr (.inr v0)), some (.inr (.inr v1)), some (.inr (.inr v2)), some (.inl v3)] [] h)))) := (zx_unfold zblk xs 0 18 _ rfl _ _ _).trans rfl
theorem e_0_188 (xs : List Int) (v0 : Option Nat) (v1 : Option Nat) (v2 : Option Nat) (v3 : Int) (h : zH) : zx zblk xs 0 188 [some (.inr (.inr v0)), some (.inr (.inr v1)), some (.inr (.inr v2)), some (.inl v3)] [] h = (zai xs h v0 (v3 + 1) fun a1 => (zai xs h v0 (v3 + 2) fun a2 => (zck h v1 6 (zci (zx zblk xs 2 0 [some (.inr (.inr v1)), some (.inr (.inl (zorl (zshll (zw a1) 32) (zandl (zw a2) 4294967295)))), none] [] h) fun r4 h3 => (zai xs h3 v0 (v3 + 1) fun a5 => (zai xs h3 v0 (v3 + 2) fun a6 => (zck h3 v2 7 (zci (zx zblk xs 68 0 [some (.inr (.inr v2)), some (.inr (.inl (zorl (zshll (zw a5) 32) (zandl (zw a6) 4294967295)))), none] [] h3) fun r8 h7 => (if zw r4 = zw r8 then zx zblk xs 0 1187 [some (.inr (.inr v0)), some (.inr (.inr v1)), some (.inr (.inr v2)), some (.inl v3)] [] h7 else (if 0 = 0 ∨ 0 = 1 then some (some (.inl 0), h7) else none)))))))))) := (zx_unfold zblk xs 0 188 _ rfl _ _ _).trans rfl
theorem e_0_241 (xs : List Int) (v0 : Option Nat) (v1 : Option Nat) (v2 : Option Nat) (v3 : Int) (h : zH) : zx zblk xs 0 241 [some (.inr (.inr v0)), some (.inr (.inr v1)), some (.inr (.inr v2)), some (.inl v3)] [] h = (zck h v1 6 (zci (zx zblk xs 3 0 [some (.inr (.inr v1))] [] h) fun r2 h1 => (zck h1 v2 7 (zci (zx zblk xs 69 0 [some (.inr (.inr v2))] [] h1) fun r4 h3 => (if zw r2 = zw r4 then zx zblk xs 0 1187 [some (.inr (.inr v0)), some (.inr (.inr v1)), some (.inr (.inr v2)), some (.inl v3)] [] h3 else (if 0 = 0 ∨ 0 = 1 then some (some (.inl 0), h3) else none)))))) := (zx_unfold zblk xs 0 241 _ rfl _ _ _).trans rfl
theorem e_0_254 (xs : List Int) (v0 : Option Nat) (v1 : Option Nat) (v2 : Option Nat) (v3 : Int) (h : zH) : zx zblk xs 0 254 [some (.inr (.inr v0)), some (.inr (.inr v1)), some (.inr (.inr v2)), some (.inl v3)] [] h = (zck h v1 6 (zci (zx zblk xs 4 0 [some (.inr (.inr v1))] [] h) fun r2 h1 => (zck h1 v2 7 (zci (zx zblk xs 72 0 [some (.inr (.inr v2))] [] h1) fun r4 h3 => (if zw r2 = zw r4 then zx zblk xs 0 1187 [some (.inr (.inr v0)), some (.inr (.inr v1)), some (.inr (.inr v2)), some (.inl v3)] [] h3 else (if 0 = 0 ∨ 0 = 1 then some (some (.inl 0), h3) else none)))))) := (zx_unfold zblk xs 0 254 _ rfl _ _ _).trans rfl
theorem e_0_267 (xs : List Int) (v0 : Option Nat) (v1 : Option Nat) (v2 : Option Nat) (v3 : Int) (h : zH) : zx zblk xs 0 267 [some (.inr (.inr v0)), some (.inr (.inr v1)), some (.inr (.inr v2)), some (.inl v3)] [] h = (zck h v1 6 (zci (zx zblk xs 5 0 [some (.inr (.inr v1))] [] h) fun r2 h1 => (zck h1 v2 7 (zci (zx zblk xs 73 0 [some (.inr (.inr v2))] [] h1) fun r4 h3 => (if zw r2 = zw r4 then zx zblk xs 0 1187 [some (.inr (.inr v0)), some (.inr (.inr v1)), some (.inr (.inr v2)), some (.inl v3)] [] h3 else (if 0 = 0 ∨ 0 = 1 then some (some (.inl 0), h3) else none)))))) := (zx_unfold zblk xs 0 267 _ rfl _ _ _).trans rfl
theorem e_0_280 (xs : List Int) (v0 : Option Nat) (v1 : Option Nat) (v2 : Option Nat) (v3 : Int) (h : zH) : zx zblk xs 0 280 [some (.inr (.inr v0)), some (.inr (.inr v1)), some (.inr (.inr v2)), some (.inl v3)] [] h = (zai xs h v0 (v3 + 1) fun a1 => (zai xs h v0 (v3 + 2) fun a2 => (zai xs h v0 (v3 + 3) fun a3 => (zai xs h v0 (v3 + 4) fun a4 => (zck h v1 6 (zci (zx zblk xs 6 0 [some (.inr (.inr v1)), some (.inl a1), some (.inl a2), some (.inl a3), some (.inl a4)] [] h) fun r6 h5 => (zai xs h5 v0 (v3 + 1) fun a7 => (zai xs h5 v0 (v3 + 2) fun a8 => (zai xs h5 v0 (v3 + 3) fun a9 => (zai xs h5 v0 (v3 + 4) fun a10 => (zck h5 v2 7 (zci (zx zblk xs 75 0 [some (.inr (.inr v2)), some (.inl a7), some (.inl a8), some (.inl a9), some (.inl a10)] [] h5) fun r12 h11 => (if zw r6 = zw r12 then zx zblk xs 0 1187 [some (.inr (.inr v0)), some (.inr (.inr v1)), some (.inr (.inr v2)), some (.inl v3)] [] h11 else (if 0 = 0 ∨ 0 = 1 then some (some (.inl 0), h11) else none)))))))))))))) := (zx_unfold zblk xs 0 280 _ rfl _ _ _).trans rfl
theorem e_0_333 (xs : List Int) (v0 : Option Nat) (v1 : Option Nat) (v2 : Option Nat) (v3 : Int) (h : zH) : zx zblk xs 0 333 [some (.inr (.inr v0)), some (.inr (.inr v1)), some (.inr (.inr v2)), some (.inl v3)] [] h = (zai xs h v0 (v3 + 1) fun a1 => (zai xs h v0 (v3 + 2) fun a2 => (zck h v1 6 (zci (zx zblk xs 7 0 [some (.inr (.inr v1)), some (.inl a1), some (.inl a2)] [] h) fun r4 h3 => (zai xs h3 v0 (v3 + 1) fun a5 => (zai xs h3 v0 (v3 + 2) fun a6 => (zck h3 v2 7 (zci (zx zblk xs 77 0 [some (.inr (.inr v2)), some (.inl a5), some (.inl a6)] [] h3) fun r8 h7 => (if zw r4 = zw r8 then zx zblk xs 0 1187 [some (.inr (.inr v0)), some (.inr (.inr v1)), some (.inr (.inr v2)), some (.inl v3)] [] h7 else (if 0 = 0 ∨ 0 = 1 then some (some (.inl 0), h7) else none)))))))))) := (zx_unfold zblk xs 0 333 _ rfl _ _ _).trans rfl
theorem e_0_366 (xs : List Int) (v0 : Option Nat) (v1 : Option Nat) (v2 : Option Nat) (v3 : Int) (h : zH) : zx zblk xs 0 366 [some (.inr (.inr v0)), some (.inr (.inr v1)), some (.inr (.inr v2)), some (.inl v3)] [] h = (zai xs h v0 (v3 + 1) fun a1 => (zai xs h v0 (v3 + 2) fun a2 => (zck h v1 6 (zci (zx zblk xs 8 0 [some (.inr (.inr v1)), some (.inl a1), some (.inl a2)] [] h) fun r4 h3 => (zai xs h3 v0 (v3 + 1) fun a5 => (zai xs h3 v0 (v3 + 2) fun a6 => (zck h3 v2 7 (zci (zx zblk xs 78 0 [some (.inr (.inr v2)), some (.inl a5), some (.inl a6)] [] h3) fun r8 h7 => (if zw r4 = zw r8 then zx zblk xs 0 1187 [some (.inr (.inr v0)), some (.inr (.inr v1)), some (.inr (.inr v2)), some (.inl v3)] [] h7 else (if 0 = 0 ∨ 0 = 1 then some (some (.inl 0), h7) else none)))))))))) := (zx_unfold zblk xs 0 366 _ rfl _ _ _).trans rfl
theorem e_0_399 (xs : List Int) (v0 : Option Nat) (v1 : Option Nat) (v2 : Option Nat) (v3 : Int) (h : zH) : zx zblk xs 0 399 [some (.inr (.inr v0)), some (.inr (.inr v1)), some (.inr (.inr v2)), some (.inl v3)] [] h = (zai xs h v0 (v3 + 1) fun a1 => (zck h v1 6 (zci (zx zblk xs 9 0 [some (.inr (.inr v1)), some (.inl a1)] [] h) fun r3 h2 => (zai xs h2 v0 (v3 + 1) fun a4 => (zck h2 v2 7 (zci (zx zblk xs 79 0 [some (.inr (.inr v2)), some (.inl a4)] [] h2) fun r6 h5 => (if zw r3 = zw r6 then zx zblk xs 0 1187 [some (.inr (.inr v0)), some (.inr (.inr v1)), some (.inr (.inr v2)), some (.inl v3)] [] h5 else (if 0 = 0 ∨ 0 = 1 then some (some (.inl 0), h5) else none)))))))) := (zx_unfold zblk xs 0 399 _ rfl _ _ _).trans rfl
theorem e_0_422 (xs : List Int) (v0 : Option Nat) (v1 : Option Nat) (v2 : Option Nat) (v3 : Int) (h : zH) : zx zblk xs 0 422 [some (.inr (.inr v0)), some (.inr (.inr v1)), some (.inr (.inr v2)), some (.inl v3)] [] h = (zai xs h v0 (v3 + 1) fun a1 => (zai xs h v0 (v3 + 2) fun a2 => (zck h v1 6 (zci (zx zblk xs 10 0 [some (.inr (.inr v1)), some (.inl a1), some (.inl a2)] [] h) fun r4 h3 => (zai xs h3 v0 (v3 + 1) fun a5 => (zai xs h3 v0 (v3 + 2) fun a6 => (zck h3 v2 7 (zci (zx zblk xs 81 0 [some (.inr (.inr v2)), some (.inl a5), some (.inl a6)] [] h3) fun r8 h7 => (if zw r4 = zw r8 then zx zblk xs 0 1187 [some (.inr (.inr v0)), some (.inr (.inr v1)), some (.inr (.inr v2)), some (.inl v3)] [] h7 else (if 0 = 0 ∨ 0 = 1 then some (some (.inl 0), h7) else none)))))))))) := (zx_unfold zblk xs 0 422 _ rfl _ _ _).trans rfl
theorem e_0_455 (xs : List Int) (v0 : Option Nat) (v1 : Option Nat) (v2 : Option Nat) (v3 : Int) (h : zH) : zx zblk xs 0 455 [some (.inr (.inr v0)), some (.inr (.inr v1)), some (.inr (.inr v2)), some (.inl v3)] [] h = (zai xs h v0 (v3 + 1) fun a1 => (zai xs h v0 (v3 + 2) fun a2 => (zai xs h v0 (v3 + 3) fun a3 => (zck h v1 6 (zci (zx zblk xs 11 0 [some (.inr (.inr v1)), some (.inl a1), some (.inl a2), some (.inl a3)] [] h) fun r5 h4 => (zai xs h4 v0 (v3 + 1) fun a6 => (zai xs h4 v0 (v3 + 2) fun a7 => (zai xs h4 v0 (v3 + 3) fun a8 => (zck h4 v2 7 (zci (zx zblk xs 90 0 [some (.inr (.inr v2)), some (.inl a6), some (.inl a7), some (.inl a8)] [] h4) fun r10 h9 => (if zw r5 = zw r10 then zx zblk xs 0 1187 [some (.inr (.inr v0)), some (.inr (.inr v1)), some (.inr (.inr v2)), some (.inl v3)] [] h9 else (if 0 = 0 ∨ 0 = 1 then some (some (.inl 0), h9) else none)))))))))))) := (zx_unfold zblk xs 0 455 _ rfl _ _ _).trans rfl
theorem e_0_498 (xs : List Int) (v0 : Option Nat) (v1 : Option Nat) (v2 : Option Nat) (v3 : Int) (h : zH) : zx zblk xs 0 498 [some (.inr (.inr v0)), some (.inr (.inr v1)), some (.inr (.inr v2)), some (.inl v3)] [] h = (zai xs h v0 (v3 + 1) fun a1 => (zck h v1 6 (zci (zx zblk xs 12 0 [some (.inr (.inr v1)), some (.inl a1)] [] h) fun r3 h2 => (zai xs h2 v0 (v3 + 1) fun a4 => (zck h2 v2 7 (zci (zx zblk xs 96 0 [some (.inr (.inr v2)), some (.inl a4)] [] h2) fun r6 h5 => (if zw r3 = zw r6 then zx zblk xs 0 1187 [some (.inr (.inr v0)), some (.inr (.inr v1)), some (.inr (.inr v2)), some (.inl v3)] [] h5 else (if 0 = 0 ∨ 0 = 1 then some (some (.inl 0), h5) else none)))))))) := (zx_unfold zblk xs 0 498 _ rfl _ _ _).trans rfl
theorem e_0_521 (xs : List Int) (v0 : Option Nat) (v1 : Option Nat) (v2 : Option Nat) (v3 : Int) (h : zH) : zx zblk xs 0 521 [some (.inr (.inr v0)), some (.inr (.inr v1)), some (.inr (.inr v2)), some (.inl v3)] [] h = (zai xs h v0 (v3 + 1) fun a1 => (zai xs h v0 (v3 + 2) fun a2 => (zck h v1 6 (zci (zx zblk xs 13 0 [some (.inr (.inr v1)), some (.inl a1), some (.inl a2)] [] h) fun r4 h3 => (zai xs h3 v0 (v3 + 1) fun a5 => (zai xs h3 v0 (v3 + 2) fun a6 => (zck h3 v2 7 (zci (zx zblk xs 98 0 [some (.inr (.inr v2)), some (.inl a5), some (.inl a6)] [] h3) fun r8 h7 => (if zw r4 = zw r8 then zx zblk xs 0 1187 [some (.inr (.inr v0)), some (.inr (.inr v1)), some (.inr (.inr v2)), some (.inl v3)] [] h7 else (if 0 = 0 ∨ 0 = 1 then some (some (.inl 0), h7) else none)))))))))) := (zx_unfold zblk xs 0 521 _ rfl _ _ _).trans rfl
theorem e_0_554 (xs : List Int) (v0 : Option Nat) (v1 : Option Nat) (v2 : Option Nat) (v3 : Int) (h : zH) : zx zblk xs 0 554 [some (.inr (.inr v0)), some (.inr (.inr v1)), some (.inr (.inr v2)), some (.inl v3)] [] h = (zai xs h v0 (v3 + 1) fun a1 => (zai xs h v0 (v3 + 2) fun a2 => (zck h v1 6 (zci (zx zblk xs 14 0 [some (.inr (.inr v1)), some (.inl a1), some (.inl a2)] [] h) fun r4 h3 => (zai xs h3 v0 (v3 + 1) fun a5 => (zai xs h3 v0 (v3 + 2) fun a6 => (zck h3 v2 7 (zci (zx zblk xs 99 0 [some (.inr (.inr v2)), some (.inl a5), some (.inl a6)] [] h3) fun r8 h7 => (if zw r4 = zw r8 then zx zblk xs 0 1187 [some (.inr (.inr v0)), some (.inr (.inr v1)), some (.inr (.inr v2)), some (.inl v3)] [] h7 else (if 0 = 0 ∨ 0 = 1 then some (some (.inl 0), h7) else none)))))))))) := (zx_unfold zblk xs 0 554 _ rfl _ _ _).trans rfl
theorem e_0_587 (xs : List Int) (v0 : Option Nat) (v1 : Option Nat) (v2 : Option Nat) (v3 : Int) (h : zH) : zx zblk xs 0 587 [some (.inr (.inr v0)), some (.inr (.inr v1)), some (.inr (.inr v2)), some (.inl v3)] [] h = (zai xs h v0 (v3 + 1) fun a1 => (zck h v1 6 (zci (zx zblk xs 15 0 [some (.inr (.inr v1)), some (.inl a1)] [] h) fun r3 h2 => (zai xs h2 v0 (v3 + 1) fun a4 => (zck h2 v2 7 (zci (zx zblk xs 104 0 [some (.inr (.inr v2)), some (.inl a4)] [] h2) fun r6 h5 => (if zw r3 = zw r6 then zx zblk xs 0 1187 [some (.inr (.inr v0)), some (.inr (.inr v1)), some (.inr (.inr v2)), some (.inl v3)] [] h5 else (if 0 = 0 ∨ 0 = 1 then some (some (.inl 0), h5) else none)))))))) := (zx_unfold zblk xs 0 587 _ rfl _ _ _).trans rfl
theorem e_0_610 (xs : List Int) (v0 : Option Nat) (v1 : Option Nat) (v2 : Option Nat) (v3 : Int) (h : zH) : zx zblk xs 0 610 [some (.inr (.inr v0)), some (.inr (.inr v1)), some (.inr (.inr v2)), some (.inl v3)] [] h = (zai xs h v0 (v3 + 1) fun a1 => (zai xs h v0 (v3 + 2) fun a2 => (zck h v1 6 (zci (zx zblk xs 16 0 [some (.inr (.inr v1)), some (.inl a1), some (.inl a2)] [] h) fun r4 h3 => (zai xs h3 v0 (v3 + 1) fun a5 => (zai xs h3 v0 (v3 + 2) fun a6 => (zck h3 v2 7 (zci (zx zblk xs 110 0 [some (.inr (.inr v2)), some (.inl a5), some (.inl a6)] [] h3) fun r8 h7 => (if zw r4 = zw r8 then zx zblk xs 0 1187 [some (.inr (.inr v0)), some (.inr (.inr v1)), some (.inr (.inr v2)), some (.inl v3)] [] h7 else (if 0 = 0 ∨ 0 = 1 then some (some (.inl 0), h7) else none)))))))))) := (zx_unfold zblk xs 0 610 _ rfl _ _ _).trans rfl
theorem e_0_643 (xs : List Int) (v0 : Option Nat) (v1 : Option Nat) (v2 : Option Nat) (v3 : Int) (h : zH) : zx zblk xs 0 643 [some (.inr (.inr v0)), some (.inr (.inr v1)), some (.inr (.inr v2)), some (.inl v3)] [] h = (zai xs h v0 (v3 + 1) fun a1 => (zck h v1 6 (zci (zx zblk xs 17 0 [some (.inr (.inr v1)), some (.inl a1)] [] h) fun r3 h2 => (zai xs h2 v0 (v3 + 1) fun a4 => (zck h2 v2 7 (zci (zx zblk xs 112 0 [some (.inr (.inr v2)), some (.inl a4)] [] h2) fun r6 h5 => (if zw r3 = zw r6 then zx zblk xs 0 1187 [some (.inr (.inr v0)), some (.inr (.inr v1)), some (.inr (.inr v2)), some (.inl v3)] [] h5 else (if 0 = 0 ∨ 0 = 1 then some (some (.inl 0), h5) else none)))))))) := (zx_unfold zblk xs 0 643 _ rfl _ _ _).trans rfl
theorem e_0_666 (xs : List Int) (v0 : Option Nat) (v1 : Option Nat) (v2 : Option Nat) (v3 : Int) (h : zH) : zx zblk xs 0 666 [some (.inr (.inr v0)), some (.inr (.inr v1)), some (.inr (.inr v2)), some (.inl v3)] [] h = (zai xs h v0 (v3 + 1) fun a1 => (zai xs h v0 (v3 + 2) fun a2 => (zck h v1 6 (zci (zx zblk xs 18 0 [some (.inr (.inr v1)), some (.inl a1), some (.inl a2)] [] h) fun r4 h3 => (zai xs h3 v0 (v3 + 1) fun a5 => (zai xs h3 v0 (v3 + 2) fun a6 => (zck h3 v2 7 (zci (zx zblk xs 115 0 [some (.inr (.inr v2)), some (.inl a5), some (.inl a6)] [] h3) fun r8 h7 => (if zw r4 = zw r8 then zx zblk xs 0 1187 [some (.inr (.inr v0)), some (.inr (.inr v1)), some (.inr (.inr v2)), some (.inl v3)] [] h7 else (if 0 = 0 ∨ 0 = 1 then some (some (.inl 0), h7) else none)))))))))) := (zx_unfold zblk xs 0 666 _ rfl _ _ _).trans rfl
theorem e_0_699 (xs : List Int) (v0 : Option Nat) (v1 : Option Nat) (v2 : Option Nat) (v3 : Int) (h : zH) : zx zblk xs 0 699 [some (.inr (.inr v0)), some (.inr (.inr v1)), some (.inr (.inr v2)), some (.inl v3)] [] h = (zai xs h v0 (v3 + 1) fun a1 => (zai xs h v0 (v3 + 2) fun a2 => (zck h v1 6 (zci (zx zblk xs 19 0 [some (.inr (.inr v1)), some (.inl a1), some (.inl a2)] [] h) fun r4 h3 => (zai xs h3 v0 (v3 + 1) fun a5 => (zai xs h3 v0 (v3 + 2) fun a6 => (zck h3 v2 7 (zci (zx zblk xs 118 0 [some (.inr (.inr v2)), some (.inl a5), some (.inl a6)] [] h3) fun r8 h7 => (if zw r4 = zw r8 then zx zblk xs 0 1187 [some (.inr (.inr v0)), some (.inr (.inr v1)), some (.inr (.inr v2)), some (.inl v3)] [] h7 else (if 0 = 0 ∨ 0 = 1 then some (some (.inl 0), h7) else none)))))))))) := (zx_unfold zblk xs 0 699 _ rfl _ _ _).trans rfl
theorem e_0_732 (xs : List Int) (v0 : Option Nat) (v1 : Option Nat) (v2 : Option Nat) (v3 : Int) (h : zH) : zx zblk xs 0 732 [some (.inr (.inr v0)), some (.inr (.inr v1)), some (.inr (.inr v2)), some (.inl v3)] [] h = (zai xs h v0 (v3 + 1) fun a1 => (zck h v1 6 (zci (zx zblk xs 20 0 [some (.inr (.inr v1)), some (.inl a1)] [] h) fun r3 h2 => (zai xs h2 v0 (v3 + 1) fun a4 => (zck h2 v2 7 (zci (zx zblk xs 120 0 [some (.inr (.inr v2)), some (.inl a4)] [] h2) fun r6 h5 => (if zw r3 = zw r6 then zx zblk xs 0 1187 [some (.inr (.inr v0)), some (.inr (.inr v1)), some (.inr (.inr v2)), some (.inl v3)] [] h5 else (if 0 = 0 ∨ 0 = 1 then some (some (.inl 0), h5) else none)))))))) := (zx_unfold zblk xs 0 732 _ rfl _ _ _).trans rfl
theorem e_0_755 (xs : List Int) (v0 : Option Nat) (v1 : Option Nat) (v2 : Option Nat) (v3 : Int) (h : zH) : zx zblk xs 0 755 [some (.inr (.inr v0)), some (.inr (.inr v1)), some (.inr (.inr v2)), some (.inl v3)] [] h = (zai xs h v0 (v3 + 1) fun a1 => (zck h v1 6 (zci (zx zblk xs 21 0 [some (.inr (.inr v1)), some (.inl a1)] [] h) fun r3 h2 => (zai xs h2 v0 (v3 + 1) fun a4 => (zck h2 v2 7 (zci (zx zblk xs 121 0 [some (.inr (.inr v2)), some (.inl a4)] [] h2) fun r6 h5 => (if zw r3 = zw r6 then zx zblk xs 0 1187 [some (.inr (.inr v0)), some (.inr (.inr v1)), some (.inr (.inr v2)), some (.inl v3)] [] h5 else (if 0 = 0 ∨ 0 = 1 then some (some (.inl 0), h5) else none)))))))) := (zx_unfold zblk xs 0 755 _ rfl _ _ _).trans rfl
theorem e_0_778 (xs : List Int) (v0 : Option Nat) (v1 : Option Nat) (v2 : Option Nat) (v3 : Int) (h : zH) : zx zblk xs 0 778 [some (.inr (.inr v0)), some (.inr (.inr v1)), some (.inr (.inr v2)), some (.inl v3)] [] h = (zai xs h v0 (v3 + 1) fun a1 => (zai xs h v0 (v3 + 2) fun a2 => (zai xs h v0 (v3 + 3) fun a3 => (zai xs h v0 (v3 + 4) fun a4 => (zai xs h v0 (v3 + 5) fun a5 => (zck h v1 6 (zcl (zx zblk xs 22 0 [some (.inr (.inr v1)), some (.inl a1), some (.inl a2), some (.inl a3), some (.inl a4), some (.inl a5)] [] h) fun r7 h6 => (zai xs h6 v0 (v3 + 1) fun a8 => (zai xs h6 v0 (v3 + 2) fun a9 => (zai xs h6 v0 (v3 + 3) fun a10 => (zai xs h6 v0 (v3 + 4) fun a11 => (zai xs h6 v0 (v3 + 5) fun a12 => (zck h6 v2 7 (zcl (zx zblk xs 123 0 [some (.inr (.inr v2)), some (.inl a8), some (.inl a9), some (.inl a10), some (.inl a11), some (.inl a12)] [] h6) fun r14 h13 => (if zw (if zwl r7 < zwl r14 then -1 else if zwl r7 = zwl r14 then 0 else 1) = 0 then zx zblk xs 0 1187 [some (.inr (.inr v0)), some (.inr (.inr v1)), some (.inr (.inr v2)), some (.inl v3)] [] h13 else (if 0 = 0 ∨ 0 = 1 then some (some (.inl 0), h13) else none)))))))))))))))) := (zx_unfold zblk xs 0 778 _ rfl _ _ _).trans rfl
theorem e_0_842 (xs : List Int) (v0 : Option Nat) (v1 : Option Nat) (v2 : Option Nat) (v3 : Int) (h : zH) : zx zblk xs 0 842 [some (.inr (.inr v0)), some (.inr (.inr v1)), some (.inr (.inr v2)), some (.inl v3)] [] h = (zai xs h v0 (v3 + 1) fun a1 => (zck h v1 6 (zci (zx zblk xs 23 0 [some (.inr (.inr v1)), some (.inl a1)] [] h) fun r3 h2 => (zai xs h2 v0 (v3 + 1) fun a4 => (zck h2 v2 7 (zci (zx zblk xs 124 0 [some (.inr (.inr v2)), some (.inl a4)] [] h2) fun r6 h5 => (if zw r3 = zw r6 then zx zblk xs 0 1187 [some (.inr (.inr v0)), some (.inr (.inr v1)), some (.inr (.inr v2)), some (.inl v3)] [] h5 else (if 0 = 0 ∨ 0 = 1 then some (some (.inl 0), h5) else none)))))))) := (zx_unfold zblk xs 0 842 _ rfl _ _ _).trans rfl
theorem e_0_865 (xs : List Int) (v0 : Option Nat) (v1 : Option Nat) (v2 : Option Nat) (v3 : Int) (h : zH) : zx zblk xs 0 865 [some (.inr (.inr v0)), some (.inr (.inr v1)), some (.inr (.inr v2)), some (.inl v3)] [] h = (zck h v1 6 (zci (zx zblk xs 24 0 [some (.inr (.inr v1))] [] h) fun r2 h1 => (zck h1 v2 7 (zci (zx zblk xs 125 0 [some (.inr (.inr v2))] [] h1) fun r4 h3 => (if zw r2 = zw r4 then zx zblk xs 0 1187 [some (.inr (.inr v0)), some (.inr (.inr v1)), some (.inr (.inr v2)), some (.inl v3)] [] h3 else (if 0 = 0 ∨ 0 = 1 then some (some (.inl 0), h3) else none)))))) := (zx_unfold zblk xs 0 865 _ rfl _ _ _).trans rfl
theorem e_0_878 (xs : List Int) (v0 : Option Nat) (v1 : Option Nat) (v2 : Option Nat) (v3 : Int) (h : zH) : zx zblk xs 0 878 [some (.inr (.inr v0)), some (.inr (.inr v1)), some (.inr (.inr v2)), some (.inl v3)] [] h = (zck h v1 6 (zci (zx zblk xs 25 0 [some (.inr (.inr v1))] [] h) fun r2 h1 => (zck h1 v2 7 (zci (zx zblk xs 128 0 [some (.inr (.inr v2))] [] h1) fun r4 h3 => (if zw r2 = zw r4 then zx zblk xs 0 1187 [some (.inr (.inr v0)), some (.inr (.inr v1)), some (.inr (.inr v2)), some (.inl v3)] [] h3 else (if 0 = 0 ∨ 0 = 1 then some (some (.inl 0), h3) else none)))))) := (zx_unfold zblk xs 0 878 _ rfl _ _ _).trans rfl
theorem e_0_891 (xs : List Int) (v0 : Option Nat) (v1 : Option Nat) (v2 : Option Nat) (v3 : Int) (h : zH) : zx zblk xs 0 891 [some (.inr (.inr v0)), some (.inr (.inr v1)), some (.inr (.inr v2)), some (.inl v3)] [] h = (zai xs h v0 (v3 + 1) fun a1 => (zai xs h v0 (v3 + 2) fun a2 => (zck h v1 6 (zci (zx zblk xs 26 0 [some (.inr (.inr v1)), some (.inl a1), some (.inl a2)] [] h) fun r4 h3 => (zai xs h3 v0 (v3 + 1) fun a5 => (zai xs h3 v0 (v3 + 2) fun a6 => (zck h3 v2 7 (zci (zx zblk xs 129 0 [some (.inr (.inr v2)), some (.inl a5), some (.inl a6)] [] h3) fun r8 h7 => (if zw r4 = zw r8 then zx zblk xs 0 1187 [some (.inr (.inr v0)), some (.inr (.inr v1)), some (.inr (.inr v2)), some (.inl v3)] [] h7 else (if 0 = 0 ∨ 0 = 1 then some (some (.inl 0), h7) else none)))))))))) := (zx_unfold zblk xs 0 891 _ rfl _ _ _).trans rfl
theorem e_0_924 (xs : List Int) (v0 : Option Nat) (v1 : Option Nat) (v2 : Option Nat) (v3 : Int) (h : zH) : zx zblk xs 0 924 [some (.inr (.inr v0)), some (.inr (.inr v1)), some (.inr (.inr v2)), some (.inl v3)] [] h = (zai xs h v0 (v3 + 1) fun a1 => (zai xs h v0 (v3 + 2) fun a2 => (zck h v1 6 (zcl (zx zblk xs 27 0 [some (.inr (.inr v1)), some (.inl a1), some (.inl a2)] [] h) fun r4 h3 => (zai xs h3 v0 (v3 + 1) fun a5 => (zai xs h3 v0 (v3 + 2) fun a6 => (zck h3 v2 7 (zcl (zx zblk xs 130 0 [some (.inr (.inr v2)), some (.inl a5), some (.inl a6)] [] h3) fun r8 h7 => (if zw (if zwl r4 < zwl r8 then -1 else if zwl r4 = zwl r8 then 0 else 1) = 0 then zx zblk xs 0 1187 [some (.inr (.inr v0)), some (.inr (.inr v1)), some (.inr (.inr v2)), some (.inl v3)] [] h7 else (if 0 = 0 ∨ 0 = 1 then some (some (.inl 0), h7) else none)))))))))) := (zx_unfold zblk xs 0 924 _ rfl _ _ _).trans rfl
theorem e_0_958 (xs : List Int) (v0 : Option Nat) (v1 : Option Nat) (v2 : Option Nat) (v3 : Int) (h : zH) : zx zblk xs 0 958 [some (.inr (.inr v0)), some (.inr (.inr v1)), some (.inr (.inr v2)), some (.inl v3)] [] h = (zai xs h v0 (v3 + 1) fun a1 => (zai xs h v0 (v3 + 2) fun a2 => (zck h v1 6 (zci (zx zblk xs 28 0 [some (.inr (.inr v1)), some (.inl a1), some (.inl a2)] [] h) fun r4 h3 => (zai xs h3 v0 (v3 + 1) fun a5 => (zai xs h3 v0 (v3 + 2) fun a6 => (zck h3 v2 7 (zci (zx zblk xs 133 0 [some (.inr (.inr v2)), some (.inl a5), some (.inl a6)] [] h3) fun r8 h7 => (if zw r4 = zw r8 then zx zblk xs 0 1187 [some (.inr (.inr v0)), some (.inr (.inr v1)), some (.inr (.inr v2)), some (.inl v3)] [] h7 else (if 0 = 0 ∨ 0 = 1 then some (some (.inl 0), h7) else none)))))))))) := (zx_unfold zblk xs 0 958 _ rfl _ _ _).trans rfl
theorem e_0_991 (xs : List Int) (v0 : Option Nat) (v1 : Option Nat) (v2 : Option Nat) (v3 : Int) (h : zH) : zx zblk xs 0 991 [some (.inr (.inr v0)), some (.inr (.inr v1)), some (.inr (.inr v2)), some (.inl v3)] [] h = (zai xs h v0 (v3 + 1) fun a1 => (zck h v1 6 (zci (zx zblk xs 29 0 [some (.inr (.inr v1)), some (.inl a1)] [] h) fun r3 h2 => (zai xs h2 v0 (v3 + 1) fun a4 => (zck h2 v2 7 (zci (zx zblk xs 134 0 [some (.inr (.inr v2)), some (.inl a4)] [] h2) fun r6 h5 => (if zw r3 = zw r6 then zx zblk xs 0 1187 [some (.inr (.inr v0)), some (.inr (.inr v1)), some (.inr (.inr v2)), some (.inl v3)] [] h5 else (if 0 = 0 ∨ 0 = 1 then some (some (.inl 0), h5) else none)))))))) := (zx_unfold zblk xs 0 991 _ rfl _ _ _).trans rfl
theorem e_0_1014 (xs : List Int) (v0 : Option Nat) (v1 : Option Nat) (v2 : Option Nat) (v3 : Int) (h : zH) : zx zblk xs 0 1014 [some (.inr (.inr v0)), some (.inr (.inr v1)), some (.inr (.inr v2)), some (.inl v3)] [] h = (zai xs h v0 (v3 + 1) fun a1 => (zai xs h v0 (v3 + 2) fun a2 => (zai xs h v0 (v3 + 3) fun a3 => (zai xs h v0 (v3 + 4) fun a4 => (zck h v1 6 (zcl (zx zblk xs 30 0 [some (.inr (.inr v1)), some (.inl a1), some (.inl a2), some (.inl a3), some (.inl a4)] [] h) fun r6 h5 => (zai xs h5 v0 (v3 + 1) fun a7 => (zai xs h5 v0 (v3 + 2) fun a8 => (zai xs h5 v0 (v3 + 3) fun a9 => (zai xs h5 v0 (v3 + 4) fun a10 => (zck h5 v2 7 (zcl (zx zblk xs 135 0 [some (.inr (.inr v2)), some (.inl a7), some (.inl a8), some (.inl a9), some (.inl a10)] [] h5) fun r12 h11 => (if zw (if zwl r6 < zwl r12 then -1 else if zwl r6 = zwl r12 then 0 else 1) = 0 then zx zblk xs 0 1187 [some (.inr (.inr v0)), some (.inr (.inr v1)), some (.inr (.inr v2)), some (.inl v3)] [] h11 else (if 0 = 0 ∨ 0 = 1 then some (some (.inl 0), h11) else none)))))))))))))) := (zx_unfold zblk xs 0 1014 _ rfl _ _ _).trans rfl
theorem e_0_1068 (xs : List Int) (v0 : Option Nat) (v1 : Option Nat) (v2 : Option Nat) (v3 : Int) (h : zH) : zx zblk xs 0 1068 [some (.inr (.inr v0)), some (.inr (.inr v1)), some (.inr (.inr v2)), some (.inl v3)] [] h = (zai xs h v0 (v3 + 1) fun a1 => (zai xs h v0 (v3 + 2) fun a2 => (zck h v1 6 (zci (zx zblk xs 31 0 [some (.inr (.inr v1)), some (.inl a1), some (.inl a2)] [] h) fun r4 h3 => (zai xs h3 v0 (v3 + 1) fun a5 => (zai xs h3 v0 (v3 + 2) fun a6 => (zck h3 v2 7 (zci (zx zblk xs 137 0 [some (.inr (.inr v2)), some (.inl a5), some (.inl a6)] [] h3) fun r8 h7 => (if zw r4 = zw r8 then zx zblk xs 0 1187 [some (.inr (.inr v0)), some (.inr (.inr v1)), some (.inr (.inr v2)), some (.inl v3)] [] h7 else (if 0 = 0 ∨ 0 = 1 then some (some (.inl 0), h7) else none)))))))))) := (zx_unfold zblk xs 0 1068 _ rfl _ _ _).trans rfl
theorem e_0_1101 (xs : List Int) (v0 : Option Nat) (v1 : Option Nat) (v2 : Option Nat) (v3 : Int) (h : zH) : zx zblk xs 0 1101 [some (.inr (.inr v0)), some (.inr (.inr v1)), some (.inr (.inr v2)), some (.inl v3)] [] h = (zai xs h v0 (v3 + 1) fun a1 => (zck h v1 6 (zci (zx zblk xs 32 0 [some (.inr (.inr v1)), some (.inl a1)] [] h) fun r3 h2 => (zai xs h2 v0 (v3 + 1) fun a4 => (zck h2 v2 7 (zci (zx zblk xs 139 0 [some (.inr (.inr v2)), some (.inl a4)] [] h2) fun r6 h5 => (if zw r3 = zw r6 then zx zblk xs 0 1187 [some (.inr (.inr v0)), some (.inr (.inr v1)), some (.inr (.inr v2)), some (.inl v3)] [] h5 else (if 0 = 0 ∨ 0 = 1 then some (some (.inl 0), h5) else none)))))))) := (zx_unfold zblk xs 0 1101 _ rfl _ _ _).trans rfl
theorem e_0_1124 (xs : List Int) (v0 : Option Nat) (v1 : Option Nat) (v2 : Option Nat) (v3 : Int) (h : zH) : zx zblk xs 0 1124 [some (.inr (.inr v0)), some (.inr (.inr v1)), some (.inr (.inr v2)), some (.inl v3)] [] h = (zck h v1 6 (zci (zx zblk xs 33 0 [some (.inr (.inr v1))] [] h) fun r2 h1 => (zck h1 v2 7 (zci (zx zblk xs 140 0 [some (.inr (.inr v2))] [] h1) fun r4 h3 => (if zw r2 = zw r4 then zx zblk xs 0 1187 [some (.inr (.inr v0)), some (.inr (.inr v1)), some (.inr (.inr v2)), some (.inl v3)] [] h3 else (if 0 = 0 ∨ 0 = 1 then some (some (.inl 0), h3) else none)))))) := (zx_unfold zblk xs 0 1124 _ rfl _ _ _).trans rfl
theorem e_0_1137 (xs : List Int) (v0 : Option Nat) (v1 : Option Nat) (v2 : Option Nat) (v3 : Int) (h : zH) : zx zblk xs 0 1137 [some (.inr (.inr v0)), some (.inr (.inr v1)), some (.inr (.inr v2)), some (.inl v3)] [] h = (zck h v1 6 (zci (zx zblk xs 34 0 [some (.inr (.inr v1))] [] h) fun r2 h1 => (zck h1 v2 7 (zci (zx zblk xs 141 0 [some (.inr (.inr v2))] [] h1) fun r4 h3 => (if zw r2 = zw r4 then zx zblk xs 0 1187 [some (.inr (.inr v0)), some (.inr (.inr v1)), some (.inr (.inr v2)), some (.inl v3)] [] h3 else (if 0 = 0 ∨ 0 = 1 then some (some (.inl 0), h3) else none)))))) := (zx_unfold zblk xs 0 1137 _ rfl _ _ _).trans rfl
theorem e_0_1150 (xs : List Int) (v0 : Option Nat) (v1 : Option Nat) (v2 : Option Nat) (v3 : Int) (h : zH) : zx zblk xs 0 1150 [some (.inr (.inr v0)), some (.inr (.inr v1)), some (.inr (.inr v2)), some (.inl v3)] [] h = (zai xs h v0 (v3 + 1) fun a1 => (zck h v1 6 (zci (zx zblk xs 35 0 [some (.inr (.inr v1)), some (.inl a1)] [] h) fun r3 h2 => (zai xs h2 v0 (v3 + 1) fun a4 => (zck h2 v2 7 (zci (zx zblk xs 143 0 [some (.inr (.inr v2)), some (.inl a4)] [] h2) fun r6 h5 => (if zw r3 = zw r6 then zx zblk xs 0 1187 [some (.inr (.inr v0)), some (.inr (.inr v1)), some (.inr (.inr v2)), some (.inl v3)] [] h5 else (if 0 = 0 ∨ 0 = 1 then some (some (.inl 0), h5) else none)))))))) := (zx_unfold zblk xs 0 1150 _ rfl _ _ _).trans rfl
theorem e_0_1173 (xs : List Int) (v0 : Option Nat) (v1 : Option Nat) (v2 : Option Nat) (v3 : Int) (h : zH) : zx zblk xs 0 1173 [some (.inr (.inr v0)), some (.inr (.inr v1)), some (.inr (.inr v2)), some (.inl v3)] [] h = (zck h v1 6 (zcl (zx zblk xs 36 0 [some (.inr (.inr v1))] [] h) fun r2 h1 => (zck h1 v2 7 (zcl (zx zblk xs 146 0 [some (.inr (.inr v2))] [] h1) fun r4 h3 => (if zw (if zwl r2 < zwl r4 then -1 else if zwl r2 = zwl r4 then 0 else 1) = 0 then zx zblk xs 0 1187 [some (.inr (.inr v0)), some (.inr (.inr v1)), some (.inr (.inr v2)), some (.inl v3)] [] h3 else (if 0 = 0 ∨ 0 = 1 then some (some (.inl 0), h3) else none)))))) := (zx_unfold zblk xs 0 1173 _ rfl _ _ _).trans rfl
theorem e_0_1187 (xs : List Int) (v0 : Option Nat) (v1 : Option Nat) (v2 : Option Nat) (v3 : Int) (h : zH) : zx zblk xs 0 1187 [some (.inr (.inr v0)), some (.inr (.inr v1)), some (.inr (.inr v2)), some (.inl v3)] [] h = zx zblk xs 0 18 [some (.inr (.inr v0)), some (.inr (.inr v1)), some (.inr (.inr v2)), some (.inl (v3 + 6))] [] h := (zx_unfold zblk xs 0 1187 _ rfl _ _ _).trans rfl
theorem e_0_1193 (xs : List Int)  (h : zH) : zx zblk xs 0 1193 [] [] h = (if 1 = 0 ∨ 1 = 1 then some (some (.inl 1), h) else none) := (zx_unfold zblk xs 0 1193 _ rfl _ _ _).trans rfl
end
