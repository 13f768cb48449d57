section
-- ===== PART A: goes FIRST, ahead of the names: the tables' words, and 'selects' of the private methods out of them =====
/-- a private method of a class that the tables say can be made, by its rows of tables_1 -/
def lw_okq (q : MethodName × Nat) : Prop := (q.1.cls ≠ "java/lang/invoke/MethodHandle" ∧ q.1.cls ≠ "java/lang/invoke/VarHandle") ∧ Cond.instantiable q.1.cls q.2 ∈ tables_1 ∧ Cond.privateMethod q.1 ∈ tables_1 ∧ Cond.instanceMethod q.1 ∈ tables_1
theorem lw_p0 : lw_okq (⟨"MindReaders", "firstFault", "()I"⟩, 14) := ⟨⟨by decide +kernel, by decide +kernel⟩, List.mem_of_getElem? (i := 12) (by decide +kernel), List.mem_of_getElem? (i := 200) (by decide +kernel), List.mem_of_getElem? (i := 201) (by decide +kernel)⟩
theorem lw_p1 : lw_okq (⟨"MindReaders", "codeAt", "(I)LMindReaders$Code;"⟩, 14) := ⟨⟨by decide +kernel, by decide +kernel⟩, List.mem_of_getElem? (i := 12) (by decide +kernel), List.mem_of_getElem? (i := 279) (by decide +kernel), List.mem_of_getElem? (i := 280) (by decide +kernel)⟩
theorem lw_p2 : lw_okq (⟨"MindReaders", "isThing", "(I)Z"⟩, 14) := ⟨⟨by decide +kernel, by decide +kernel⟩, List.mem_of_getElem? (i := 12) (by decide +kernel), List.mem_of_getElem? (i := 313) (by decide +kernel), List.mem_of_getElem? (i := 314) (by decide +kernel)⟩
theorem lw_p3 : lw_okq (⟨"MindReaders", "longOf", "(LMindReaders$Code;I)I"⟩, 14) := ⟨⟨by decide +kernel, by decide +kernel⟩, List.mem_of_getElem? (i := 12) (by decide +kernel), List.mem_of_getElem? (i := 331) (by decide +kernel), List.mem_of_getElem? (i := 332) (by decide +kernel)⟩
theorem lw_p4 : lw_okq (⟨"MindReaders", "hearPage", "()Z"⟩, 14) := ⟨⟨by decide +kernel, by decide +kernel⟩, List.mem_of_getElem? (i := 12) (by decide +kernel), List.mem_of_getElem? (i := 344) (by decide +kernel), List.mem_of_getElem? (i := 345) (by decide +kernel)⟩
theorem lw_p5 : lw_okq (⟨"MindReaders", "readPage", "()Z"⟩, 14) := ⟨⟨by decide +kernel, by decide +kernel⟩, List.mem_of_getElem? (i := 12) (by decide +kernel), List.mem_of_getElem? (i := 348) (by decide +kernel), List.mem_of_getElem? (i := 349) (by decide +kernel)⟩
theorem lw_p6 : lw_okq (⟨"MindReaders$Readings", "meet", "(LMindReaders$Code;IIII)Z"⟩, 2) := ⟨⟨by decide +kernel, by decide +kernel⟩, List.mem_of_getElem? (i := 94) (by decide +kernel), List.mem_of_getElem? (i := 401) (by decide +kernel), List.mem_of_getElem? (i := 402) (by decide +kernel)⟩
theorem lw_p7 : lw_okq (⟨"MindReaders$Readings", "comeTo", "(III)Z"⟩, 2) := ⟨⟨by decide +kernel, by decide +kernel⟩, List.mem_of_getElem? (i := 94) (by decide +kernel), List.mem_of_getElem? (i := 409) (by decide +kernel), List.mem_of_getElem? (i := 410) (by decide +kernel)⟩
theorem lw_p8 : lw_okq (⟨"MindReaders$Readings", "goOn", "(LMindReaders$Code;)Z"⟩, 2) := ⟨⟨by decide +kernel, by decide +kernel⟩, List.mem_of_getElem? (i := 94) (by decide +kernel), List.mem_of_getElem? (i := 414) (by decide +kernel), List.mem_of_getElem? (i := 415) (by decide +kernel)⟩
theorem lw_p9 : lw_okq (⟨"MindReaders", "thingsSaid", "(LMindReaders$Code;)I"⟩, 14) := ⟨⟨by decide +kernel, by decide +kernel⟩, List.mem_of_getElem? (i := 12) (by decide +kernel), List.mem_of_getElem? (i := 425) (by decide +kernel), List.mem_of_getElem? (i := 426) (by decide +kernel)⟩
theorem lw_p10 : lw_okq (⟨"MindReaders", "dealtTo", "(LMindReaders$Code;I)I"⟩, 14) := ⟨⟨by decide +kernel, by decide +kernel⟩, List.mem_of_getElem? (i := 12) (by decide +kernel), List.mem_of_getElem? (i := 450) (by decide +kernel), List.mem_of_getElem? (i := 451) (by decide +kernel)⟩
theorem lw_p11 : lw_okq (⟨"MindReaders", "rankByLong", "(LMindReaders$Code;II)I"⟩, 14) := ⟨⟨by decide +kernel, by decide +kernel⟩, List.mem_of_getElem? (i := 12) (by decide +kernel), List.mem_of_getElem? (i := 457) (by decide +kernel), List.mem_of_getElem? (i := 458) (by decide +kernel)⟩
theorem lw_p12 : lw_okq (⟨"MindReaders", "leastLong", "(I)J"⟩, 14) := ⟨⟨by decide +kernel, by decide +kernel⟩, List.mem_of_getElem? (i := 12) (by decide +kernel), List.mem_of_getElem? (i := 465) (by decide +kernel), List.mem_of_getElem? (i := 466) (by decide +kernel)⟩
theorem lw_p13 : lw_okq (⟨"MindReaders", "waysNamed", "(LMindReaders$Code;III)J"⟩, 14) := ⟨⟨by decide +kernel, by decide +kernel⟩, List.mem_of_getElem? (i := 12) (by decide +kernel), List.mem_of_getElem? (i := 512) (by decide +kernel), List.mem_of_getElem? (i := 513) (by decide +kernel)⟩
theorem lw_p14 : lw_okq (⟨"MindReaders", "waysHeard", "(LMindReaders$Row;II)J"⟩, 14) := ⟨⟨by decide +kernel, by decide +kernel⟩, List.mem_of_getElem? (i := 12) (by decide +kernel), List.mem_of_getElem? (i := 519) (by decide +kernel), List.mem_of_getElem? (i := 520) (by decide +kernel)⟩
theorem lw_p15 : lw_okq (⟨"MindReaders", "notesLet", "(LMindReaders$Code;II)Z"⟩, 14) := ⟨⟨by decide +kernel, by decide +kernel⟩, List.mem_of_getElem? (i := 12) (by decide +kernel), List.mem_of_getElem? (i := 556) (by decide +kernel), List.mem_of_getElem? (i := 557) (by decide +kernel)⟩
def lw_privs_1 : List (MethodName × Nat) := [(⟨"MindReaders", "firstFault", "()I"⟩, 14), (⟨"MindReaders", "codeAt", "(I)LMindReaders$Code;"⟩, 14), (⟨"MindReaders", "isThing", "(I)Z"⟩, 14), (⟨"MindReaders", "longOf", "(LMindReaders$Code;I)I"⟩, 14), (⟨"MindReaders", "hearPage", "()Z"⟩, 14), (⟨"MindReaders", "readPage", "()Z"⟩, 14), (⟨"MindReaders$Readings", "meet", "(LMindReaders$Code;IIII)Z"⟩, 2), (⟨"MindReaders$Readings", "comeTo", "(III)Z"⟩, 2), (⟨"MindReaders$Readings", "goOn", "(LMindReaders$Code;)Z"⟩, 2), (⟨"MindReaders", "thingsSaid", "(LMindReaders$Code;)I"⟩, 14), (⟨"MindReaders", "dealtTo", "(LMindReaders$Code;I)I"⟩, 14), (⟨"MindReaders", "rankByLong", "(LMindReaders$Code;II)I"⟩, 14), (⟨"MindReaders", "leastLong", "(I)J"⟩, 14), (⟨"MindReaders", "waysNamed", "(LMindReaders$Code;III)J"⟩, 14), (⟨"MindReaders", "waysHeard", "(LMindReaders$Row;II)J"⟩, 14), (⟨"MindReaders", "notesLet", "(LMindReaders$Code;II)Z"⟩, 14)]
theorem lw_r1 : ∀ q ∈ lw_privs_1, lw_okq q := List.forall_mem_cons.mpr ⟨lw_p0, List.forall_mem_cons.mpr ⟨lw_p1, List.forall_mem_cons.mpr ⟨lw_p2, List.forall_mem_cons.mpr ⟨lw_p3, List.forall_mem_cons.mpr ⟨lw_p4, List.forall_mem_cons.mpr ⟨lw_p5, List.forall_mem_cons.mpr ⟨lw_p6, List.forall_mem_cons.mpr ⟨lw_p7, List.forall_mem_cons.mpr ⟨lw_p8, List.forall_mem_cons.mpr ⟨lw_p9, List.forall_mem_cons.mpr ⟨lw_p10, List.forall_mem_cons.mpr ⟨lw_p11, List.forall_mem_cons.mpr ⟨lw_p12, List.forall_mem_cons.mpr ⟨lw_p13, List.forall_mem_cons.mpr ⟨lw_p14, List.forall_mem_cons.mpr ⟨lw_p15, fun _ h => absurd h List.not_mem_nil⟩⟩⟩⟩⟩⟩⟩⟩⟩⟩⟩⟩⟩⟩⟩⟩
theorem lw_p16 : lw_okq (⟨"MindReaders", "waysAllSeen", "(I)J"⟩, 14) := ⟨⟨by decide +kernel, by decide +kernel⟩, List.mem_of_getElem? (i := 12) (by decide +kernel), List.mem_of_getElem? (i := 578) (by decide +kernel), List.mem_of_getElem? (i := 579) (by decide +kernel)⟩
theorem lw_p17 : lw_okq (⟨"MindReaders", "changeOf", "(LMindReaders$Code;LMindReaders$Code;)I"⟩, 14) := ⟨⟨by decide +kernel, by decide +kernel⟩, List.mem_of_getElem? (i := 12) (by decide +kernel), List.mem_of_getElem? (i := 592) (by decide +kernel), List.mem_of_getElem? (i := 593) (by decide +kernel)⟩
theorem lw_p18 : lw_okq (⟨"MindReaders", "unlike", "(LMindReaders$Code;II)I"⟩, 14) := ⟨⟨by decide +kernel, by decide +kernel⟩, List.mem_of_getElem? (i := 12) (by decide +kernel), List.mem_of_getElem? (i := 611) (by decide +kernel), List.mem_of_getElem? (i := 612) (by decide +kernel)⟩
theorem lw_p19 : lw_okq (⟨"MindReaders", "mixCode", "(JILMindReaders$Code;)J"⟩, 14) := ⟨⟨by decide +kernel, by decide +kernel⟩, List.mem_of_getElem? (i := 12) (by decide +kernel), List.mem_of_getElem? (i := 654) (by decide +kernel), List.mem_of_getElem? (i := 655) (by decide +kernel)⟩
theorem lw_p20 : lw_okq (⟨"MindReadersModel", "faultOf", "()I"⟩, 27) := ⟨⟨by decide +kernel, by decide +kernel⟩, List.mem_of_getElem? (i := 665) (by decide +kernel), List.mem_of_getElem? (i := 767) (by decide +kernel), List.mem_of_getElem? (i := 768) (by decide +kernel)⟩
theorem lw_p21 : lw_okq (⟨"MindReadersModel", "go", "(I)Z"⟩, 27) := ⟨⟨by decide +kernel, by decide +kernel⟩, List.mem_of_getElem? (i := 665) (by decide +kernel), List.mem_of_getElem? (i := 771) (by decide +kernel), List.mem_of_getElem? (i := 772) (by decide +kernel)⟩
theorem lw_p22 : lw_okq (⟨"MindReadersModel", "isSignal", "(I)Z"⟩, 27) := ⟨⟨by decide +kernel, by decide +kernel⟩, List.mem_of_getElem? (i := 665) (by decide +kernel), List.mem_of_getElem? (i := 794) (by decide +kernel), List.mem_of_getElem? (i := 795) (by decide +kernel)⟩
theorem lw_p23 : lw_okq (⟨"MindReadersModel", "isThing", "(I)Z"⟩, 27) := ⟨⟨by decide +kernel, by decide +kernel⟩, List.mem_of_getElem? (i := 665) (by decide +kernel), List.mem_of_getElem? (i := 812) (by decide +kernel), List.mem_of_getElem? (i := 813) (by decide +kernel)⟩
theorem lw_p24 : lw_okq (⟨"MindReadersModel", "isCode", "(I)Z"⟩, 27) := ⟨⟨by decide +kernel, by decide +kernel⟩, List.mem_of_getElem? (i := 665) (by decide +kernel), List.mem_of_getElem? (i := 820) (by decide +kernel), List.mem_of_getElem? (i := 821) (by decide +kernel)⟩
theorem lw_p25 : lw_okq (⟨"MindReadersModel", "speechOf", "(III)I"⟩, 27) := ⟨⟨by decide +kernel, by decide +kernel⟩, List.mem_of_getElem? (i := 665) (by decide +kernel), List.mem_of_getElem? (i := 824) (by decide +kernel), List.mem_of_getElem? (i := 825) (by decide +kernel)⟩
theorem lw_p26 : lw_okq (⟨"MindReadersModel", "layPlain", "(III)V"⟩, 27) := ⟨⟨by decide +kernel, by decide +kernel⟩, List.mem_of_getElem? (i := 665) (by decide +kernel), List.mem_of_getElem? (i := 829) (by decide +kernel), List.mem_of_getElem? (i := 830) (by decide +kernel)⟩
theorem lw_p27 : lw_okq (⟨"MindReadersModel", "stand", "(I)V"⟩, 27) := ⟨⟨by decide +kernel, by decide +kernel⟩, List.mem_of_getElem? (i := 665) (by decide +kernel), List.mem_of_getElem? (i := 833) (by decide +kernel), List.mem_of_getElem? (i := 834) (by decide +kernel)⟩
theorem lw_p28 : lw_okq (⟨"MindReadersModel", "kindOf", "(I)I"⟩, 27) := ⟨⟨by decide +kernel, by decide +kernel⟩, List.mem_of_getElem? (i := 665) (by decide +kernel), List.mem_of_getElem? (i := 837) (by decide +kernel), List.mem_of_getElem? (i := 838) (by decide +kernel)⟩
theorem lw_p29 : lw_okq (⟨"MindReadersModel", "longOf", "(II)I"⟩, 27) := ⟨⟨by decide +kernel, by decide +kernel⟩, List.mem_of_getElem? (i := 665) (by decide +kernel), List.mem_of_getElem? (i := 843) (by decide +kernel), List.mem_of_getElem? (i := 844) (by decide +kernel)⟩
theorem lw_p30 : lw_okq (⟨"MindReadersModel", "secondsOf", "(I)I"⟩, 27) := ⟨⟨by decide +kernel, by decide +kernel⟩, List.mem_of_getElem? (i := 665) (by decide +kernel), List.mem_of_getElem? (i := 847) (by decide +kernel), List.mem_of_getElem? (i := 848) (by decide +kernel)⟩
theorem lw_p31 : lw_okq (⟨"MindReadersModel", "layAll", "(II)V"⟩, 27) := ⟨⟨by decide +kernel, by decide +kernel⟩, List.mem_of_getElem? (i := 665) (by decide +kernel), List.mem_of_getElem? (i := 855) (by decide +kernel), List.mem_of_getElem? (i := 856) (by decide +kernel)⟩
def lw_privs_2 : List (MethodName × Nat) := [(⟨"MindReaders", "waysAllSeen", "(I)J"⟩, 14), (⟨"MindReaders", "changeOf", "(LMindReaders$Code;LMindReaders$Code;)I"⟩, 14), (⟨"MindReaders", "unlike", "(LMindReaders$Code;II)I"⟩, 14), (⟨"MindReaders", "mixCode", "(JILMindReaders$Code;)J"⟩, 14), (⟨"MindReadersModel", "faultOf", "()I"⟩, 27), (⟨"MindReadersModel", "go", "(I)Z"⟩, 27), (⟨"MindReadersModel", "isSignal", "(I)Z"⟩, 27), (⟨"MindReadersModel", "isThing", "(I)Z"⟩, 27), (⟨"MindReadersModel", "isCode", "(I)Z"⟩, 27), (⟨"MindReadersModel", "speechOf", "(III)I"⟩, 27), (⟨"MindReadersModel", "layPlain", "(III)V"⟩, 27), (⟨"MindReadersModel", "stand", "(I)V"⟩, 27), (⟨"MindReadersModel", "kindOf", "(I)I"⟩, 27), (⟨"MindReadersModel", "longOf", "(II)I"⟩, 27), (⟨"MindReadersModel", "secondsOf", "(I)I"⟩, 27), (⟨"MindReadersModel", "layAll", "(II)V"⟩, 27)]
theorem lw_r2 : ∀ q ∈ lw_privs_2, lw_okq q := List.forall_mem_cons.mpr ⟨lw_p16, List.forall_mem_cons.mpr ⟨lw_p17, List.forall_mem_cons.mpr ⟨lw_p18, List.forall_mem_cons.mpr ⟨lw_p19, List.forall_mem_cons.mpr ⟨lw_p20, List.forall_mem_cons.mpr ⟨lw_p21, List.forall_mem_cons.mpr ⟨lw_p22, List.forall_mem_cons.mpr ⟨lw_p23, List.forall_mem_cons.mpr ⟨lw_p24, List.forall_mem_cons.mpr ⟨lw_p25, List.forall_mem_cons.mpr ⟨lw_p26, List.forall_mem_cons.mpr ⟨lw_p27, List.forall_mem_cons.mpr ⟨lw_p28, List.forall_mem_cons.mpr ⟨lw_p29, List.forall_mem_cons.mpr ⟨lw_p30, List.forall_mem_cons.mpr ⟨lw_p31, fun _ h => absurd h List.not_mem_nil⟩⟩⟩⟩⟩⟩⟩⟩⟩⟩⟩⟩⟩⟩⟩⟩
theorem lw_p32 : lw_okq (⟨"MindReadersModel", "layPage", "()Z"⟩, 27) := ⟨⟨by decide +kernel, by decide +kernel⟩, List.mem_of_getElem? (i := 665) (by decide +kernel), List.mem_of_getElem? (i := 859) (by decide +kernel), List.mem_of_getElem? (i := 860) (by decide +kernel)⟩
theorem lw_p33 : lw_okq (⟨"MindReadersModel", "namedNow", "(I)I"⟩, 27) := ⟨⟨by decide +kernel, by decide +kernel⟩, List.mem_of_getElem? (i := 665) (by decide +kernel), List.mem_of_getElem? (i := 863) (by decide +kernel), List.mem_of_getElem? (i := 864) (by decide +kernel)⟩
theorem lw_p34 : lw_okq (⟨"MindReadersModel", "differs", "(I)I"⟩, 27) := ⟨⟨by decide +kernel, by decide +kernel⟩, List.mem_of_getElem? (i := 665) (by decide +kernel), List.mem_of_getElem? (i := 868) (by decide +kernel), List.mem_of_getElem? (i := 869) (by decide +kernel)⟩
theorem lw_p35 : lw_okq (⟨"MindReadersModel", "alikeOf", "(I)I"⟩, 27) := ⟨⟨by decide +kernel, by decide +kernel⟩, List.mem_of_getElem? (i := 665) (by decide +kernel), List.mem_of_getElem? (i := 877) (by decide +kernel), List.mem_of_getElem? (i := 878) (by decide +kernel)⟩
theorem lw_p36 : lw_okq (⟨"MindReadersModel", "isAlike", "(II)Z"⟩, 27) := ⟨⟨by decide +kernel, by decide +kernel⟩, List.mem_of_getElem? (i := 665) (by decide +kernel), List.mem_of_getElem? (i := 881) (by decide +kernel), List.mem_of_getElem? (i := 882) (by decide +kernel)⟩
theorem lw_p37 : lw_okq (⟨"MindReadersModel", "isStart", "(III)Z"⟩, 27) := ⟨⟨by decide +kernel, by decide +kernel⟩, List.mem_of_getElem? (i := 665) (by decide +kernel), List.mem_of_getElem? (i := 885) (by decide +kernel), List.mem_of_getElem? (i := 886) (by decide +kernel)⟩
theorem lw_p38 : lw_okq (⟨"MindReadersModel", "twiceOf", "(I)I"⟩, 27) := ⟨⟨by decide +kernel, by decide +kernel⟩, List.mem_of_getElem? (i := 665) (by decide +kernel), List.mem_of_getElem? (i := 897) (by decide +kernel), List.mem_of_getElem? (i := 898) (by decide +kernel)⟩
theorem lw_p39 : lw_okq (⟨"MindReadersModel", "goesOn", "(III)Z"⟩, 27) := ⟨⟨by decide +kernel, by decide +kernel⟩, List.mem_of_getElem? (i := 665) (by decide +kernel), List.mem_of_getElem? (i := 901) (by decide +kernel), List.mem_of_getElem? (i := 902) (by decide +kernel)⟩
theorem lw_p40 : lw_okq (⟨"MindReadersModel", "reach", "(III)Z"⟩, 27) := ⟨⟨by decide +kernel, by decide +kernel⟩, List.mem_of_getElem? (i := 665) (by decide +kernel), List.mem_of_getElem? (i := 905) (by decide +kernel), List.mem_of_getElem? (i := 906) (by decide +kernel)⟩
theorem lw_p41 : lw_okq (⟨"MindReadersModel", "reachBy", "(IIII)Z"⟩, 27) := ⟨⟨by decide +kernel, by decide +kernel⟩, List.mem_of_getElem? (i := 665) (by decide +kernel), List.mem_of_getElem? (i := 909) (by decide +kernel), List.mem_of_getElem? (i := 910) (by decide +kernel)⟩
theorem lw_p42 : lw_okq (⟨"MindReadersModel", "saidBy", "(I)I"⟩, 27) := ⟨⟨by decide +kernel, by decide +kernel⟩, List.mem_of_getElem? (i := 665) (by decide +kernel), List.mem_of_getElem? (i := 920) (by decide +kernel), List.mem_of_getElem? (i := 921) (by decide +kernel)⟩
theorem lw_p43 : lw_okq (⟨"MindReadersModel", "weighed", "(I)I"⟩, 27) := ⟨⟨by decide +kernel, by decide +kernel⟩, List.mem_of_getElem? (i := 665) (by decide +kernel), List.mem_of_getElem? (i := 924) (by decide +kernel), List.mem_of_getElem? (i := 925) (by decide +kernel)⟩
theorem lw_p44 : lw_okq (⟨"MindReadersModel", "oddnessOf", "(I)I"⟩, 27) := ⟨⟨by decide +kernel, by decide +kernel⟩, List.mem_of_getElem? (i := 665) (by decide +kernel), List.mem_of_getElem? (i := 938) (by decide +kernel), List.mem_of_getElem? (i := 939) (by decide +kernel)⟩
theorem lw_p45 : lw_okq (⟨"MindReadersModel", "oddOf", "(I)I"⟩, 27) := ⟨⟨by decide +kernel, by decide +kernel⟩, List.mem_of_getElem? (i := 665) (by decide +kernel), List.mem_of_getElem? (i := 942) (by decide +kernel), List.mem_of_getElem? (i := 943) (by decide +kernel)⟩
theorem lw_p46 : lw_okq (⟨"MindReadersModel", "placeOf", "(II)I"⟩, 27) := ⟨⟨by decide +kernel, by decide +kernel⟩, List.mem_of_getElem? (i := 665) (by decide +kernel), List.mem_of_getElem? (i := 952) (by decide +kernel), List.mem_of_getElem? (i := 953) (by decide +kernel)⟩
theorem lw_p47 : lw_okq (⟨"MindReadersModel", "speechAt", "(III)I"⟩, 27) := ⟨⟨by decide +kernel, by decide +kernel⟩, List.mem_of_getElem? (i := 665) (by decide +kernel), List.mem_of_getElem? (i := 956) (by decide +kernel), List.mem_of_getElem? (i := 957) (by decide +kernel)⟩
def lw_privs_3 : List (MethodName × Nat) := [(⟨"MindReadersModel", "layPage", "()Z"⟩, 27), (⟨"MindReadersModel", "namedNow", "(I)I"⟩, 27), (⟨"MindReadersModel", "differs", "(I)I"⟩, 27), (⟨"MindReadersModel", "alikeOf", "(I)I"⟩, 27), (⟨"MindReadersModel", "isAlike", "(II)Z"⟩, 27), (⟨"MindReadersModel", "isStart", "(III)Z"⟩, 27), (⟨"MindReadersModel", "twiceOf", "(I)I"⟩, 27), (⟨"MindReadersModel", "goesOn", "(III)Z"⟩, 27), (⟨"MindReadersModel", "reach", "(III)Z"⟩, 27), (⟨"MindReadersModel", "reachBy", "(IIII)Z"⟩, 27), (⟨"MindReadersModel", "saidBy", "(I)I"⟩, 27), (⟨"MindReadersModel", "weighed", "(I)I"⟩, 27), (⟨"MindReadersModel", "oddnessOf", "(I)I"⟩, 27), (⟨"MindReadersModel", "oddOf", "(I)I"⟩, 27), (⟨"MindReadersModel", "placeOf", "(II)I"⟩, 27), (⟨"MindReadersModel", "speechAt", "(III)I"⟩, 27)]
theorem lw_r3 : ∀ q ∈ lw_privs_3, lw_okq q := List.forall_mem_cons.mpr ⟨lw_p32, List.forall_mem_cons.mpr ⟨lw_p33, List.forall_mem_cons.mpr ⟨lw_p34, List.forall_mem_cons.mpr ⟨lw_p35, List.forall_mem_cons.mpr ⟨lw_p36, List.forall_mem_cons.mpr ⟨lw_p37, List.forall_mem_cons.mpr ⟨lw_p38, List.forall_mem_cons.mpr ⟨lw_p39, List.forall_mem_cons.mpr ⟨lw_p40, List.forall_mem_cons.mpr ⟨lw_p41, List.forall_mem_cons.mpr ⟨lw_p42, List.forall_mem_cons.mpr ⟨lw_p43, List.forall_mem_cons.mpr ⟨lw_p44, List.forall_mem_cons.mpr ⟨lw_p45, List.forall_mem_cons.mpr ⟨lw_p46, List.forall_mem_cons.mpr ⟨lw_p47, fun _ h => absurd h List.not_mem_nil⟩⟩⟩⟩⟩⟩⟩⟩⟩⟩⟩⟩⟩⟩⟩⟩
theorem lw_p48 : lw_okq (⟨"MindReadersModel", "shortNow", "(I)I"⟩, 27) := ⟨⟨by decide +kernel, by decide +kernel⟩, List.mem_of_getElem? (i := 665) (by decide +kernel), List.mem_of_getElem? (i := 965) (by decide +kernel), List.mem_of_getElem? (i := 966) (by decide +kernel)⟩
theorem lw_p49 : lw_okq (⟨"MindReadersModel", "takeLeast", "(I)I"⟩, 27) := ⟨⟨by decide +kernel, by decide +kernel⟩, List.mem_of_getElem? (i := 665) (by decide +kernel), List.mem_of_getElem? (i := 969) (by decide +kernel), List.mem_of_getElem? (i := 970) (by decide +kernel)⟩
theorem lw_p50 : lw_okq (⟨"MindReadersModel", "apartOf", "(I)I"⟩, 27) := ⟨⟨by decide +kernel, by decide +kernel⟩, List.mem_of_getElem? (i := 665) (by decide +kernel), List.mem_of_getElem? (i := 977) (by decide +kernel), List.mem_of_getElem? (i := 978) (by decide +kernel)⟩
theorem lw_p51 : lw_okq (⟨"MindReadersModel", "isAmong", "(II)Z"⟩, 27) := ⟨⟨by decide +kernel, by decide +kernel⟩, List.mem_of_getElem? (i := 665) (by decide +kernel), List.mem_of_getElem? (i := 991) (by decide +kernel), List.mem_of_getElem? (i := 992) (by decide +kernel)⟩
theorem lw_p52 : lw_okq (⟨"MindReadersModel", "whichNow", "()I"⟩, 27) := ⟨⟨by decide +kernel, by decide +kernel⟩, List.mem_of_getElem? (i := 665) (by decide +kernel), List.mem_of_getElem? (i := 1008) (by decide +kernel), List.mem_of_getElem? (i := 1009) (by decide +kernel)⟩
theorem lw_p53 : lw_okq (⟨"MindReadersModel", "isSaid", "(III)Z"⟩, 27) := ⟨⟨by decide +kernel, by decide +kernel⟩, List.mem_of_getElem? (i := 665) (by decide +kernel), List.mem_of_getElem? (i := 1012) (by decide +kernel), List.mem_of_getElem? (i := 1013) (by decide +kernel)⟩
theorem lw_p54 : lw_okq (⟨"MindReadersModel", "changeOf", "(II)I"⟩, 27) := ⟨⟨by decide +kernel, by decide +kernel⟩, List.mem_of_getElem? (i := 665) (by decide +kernel), List.mem_of_getElem? (i := 1029) (by decide +kernel), List.mem_of_getElem? (i := 1030) (by decide +kernel)⟩
theorem lw_p55 : lw_okq (⟨"MindReadersModel", "isLike", "(III)Z"⟩, 27) := ⟨⟨by decide +kernel, by decide +kernel⟩, List.mem_of_getElem? (i := 665) (by decide +kernel), List.mem_of_getElem? (i := 1033) (by decide +kernel), List.mem_of_getElem? (i := 1034) (by decide +kernel)⟩
theorem lw_p56 : lw_okq (⟨"MindReadersModel", "leftOf", "(II)I"⟩, 27) := ⟨⟨by decide +kernel, by decide +kernel⟩, List.mem_of_getElem? (i := 665) (by decide +kernel), List.mem_of_getElem? (i := 1050) (by decide +kernel), List.mem_of_getElem? (i := 1051) (by decide +kernel)⟩
theorem lw_p57 : lw_okq (⟨"MindReadersModel", "stopOf", "(I)I"⟩, 27) := ⟨⟨by decide +kernel, by decide +kernel⟩, List.mem_of_getElem? (i := 665) (by decide +kernel), List.mem_of_getElem? (i := 1058) (by decide +kernel), List.mem_of_getElem? (i := 1059) (by decide +kernel)⟩
theorem lw_p58 : lw_okq (⟨"MindReadersModel", "countOf", "(I)I"⟩, 27) := ⟨⟨by decide +kernel, by decide +kernel⟩, List.mem_of_getElem? (i := 665) (by decide +kernel), List.mem_of_getElem? (i := 1074) (by decide +kernel), List.mem_of_getElem? (i := 1075) (by decide +kernel)⟩
theorem lw_p59 : lw_okq (⟨"MindReadersModel", "say", "(J)V"⟩, 27) := ⟨⟨by decide +kernel, by decide +kernel⟩, List.mem_of_getElem? (i := 665) (by decide +kernel), List.mem_of_getElem? (i := 1083) (by decide +kernel), List.mem_of_getElem? (i := 1084) (by decide +kernel)⟩
theorem lw_p60 : lw_okq (⟨"MindReadersModel", "sayCode", "(I)V"⟩, 27) := ⟨⟨by decide +kernel, by decide +kernel⟩, List.mem_of_getElem? (i := 665) (by decide +kernel), List.mem_of_getElem? (i := 1088) (by decide +kernel), List.mem_of_getElem? (i := 1089) (by decide +kernel)⟩
def lw_privs_4 : List (MethodName × Nat) := [(⟨"MindReadersModel", "shortNow", "(I)I"⟩, 27), (⟨"MindReadersModel", "takeLeast", "(I)I"⟩, 27), (⟨"MindReadersModel", "apartOf", "(I)I"⟩, 27), (⟨"MindReadersModel", "isAmong", "(II)Z"⟩, 27), (⟨"MindReadersModel", "whichNow", "()I"⟩, 27), (⟨"MindReadersModel", "isSaid", "(III)Z"⟩, 27), (⟨"MindReadersModel", "changeOf", "(II)I"⟩, 27), (⟨"MindReadersModel", "isLike", "(III)Z"⟩, 27), (⟨"MindReadersModel", "leftOf", "(II)I"⟩, 27), (⟨"MindReadersModel", "stopOf", "(I)I"⟩, 27), (⟨"MindReadersModel", "countOf", "(I)I"⟩, 27), (⟨"MindReadersModel", "say", "(J)V"⟩, 27), (⟨"MindReadersModel", "sayCode", "(I)V"⟩, 27)]
theorem lw_r4 : ∀ q ∈ lw_privs_4, lw_okq q := List.forall_mem_cons.mpr ⟨lw_p48, List.forall_mem_cons.mpr ⟨lw_p49, List.forall_mem_cons.mpr ⟨lw_p50, List.forall_mem_cons.mpr ⟨lw_p51, List.forall_mem_cons.mpr ⟨lw_p52, List.forall_mem_cons.mpr ⟨lw_p53, List.forall_mem_cons.mpr ⟨lw_p54, List.forall_mem_cons.mpr ⟨lw_p55, List.forall_mem_cons.mpr ⟨lw_p56, List.forall_mem_cons.mpr ⟨lw_p57, List.forall_mem_cons.mpr ⟨lw_p58, List.forall_mem_cons.mpr ⟨lw_p59, List.forall_mem_cons.mpr ⟨lw_p60, fun _ h => absurd h List.not_mem_nil⟩⟩⟩⟩⟩⟩⟩⟩⟩⟩⟩⟩⟩
def lw_privs : List (MethodName × Nat) := lw_privs_1 ++ (lw_privs_2 ++ (lw_privs_3 ++ (lw_privs_4)))
def lw_tbl : List Cond := k2_sels lw_privs ++ tables_1
theorem lw_privs_ok : ∀ q ∈ lw_privs, lw_okq q := by
  show ∀ q ∈ lw_privs_1 ++ (lw_privs_2 ++ (lw_privs_3 ++ (lw_privs_4))), lw_okq q
  exact List.forall_mem_append.mpr ⟨lw_r1, List.forall_mem_append.mpr ⟨lw_r2, List.forall_mem_append.mpr ⟨lw_r3, lw_r4⟩⟩⟩
def RX0 : String := "MindReaders$Code"
def TX0 : u_T := fun k => match k with
  | 0 => ("MindReaders$Code", "spoken", "LMindReaders$Rows;", true)
  | 1 => ("MindReaders$Code", "plain", "LMindReaders$Rows;", true)
  | _ => ("MindReaders$Code", "size", "I", false)
def tyX0 : Nat → FieldType := fun k => match k with
  | 0 => .object "MindReaders$Rows"
  | 1 => .object "MindReaders$Rows"
  | _ => .int
abbrev wsX00 : List Cond := u_ws RX0 TX0 3
theorem nmX0 : ∀ a, a < 3 → ∀ b, b < 3 → a ≠ b → (TX0 a).2.1 ≠ (TX0 b).2.1 := by decide +kernel
theorem tyX0_ok : ∀ k, k < 3 → parseFieldDescriptor (TX0 k).2.2.1 = some (tyX0 k) := by decide +kernel
def RX1 : String := "MindReaders$Notes"
def TX1 : u_T := fun k => match k with
  | 0 => ("MindReaders$Notes", "things", "LMindReaders$Row;", true)
  | _ => ("MindReaders$Notes", "rows", "LMindReaders$Rows;", true)
def tyX1 : Nat → FieldType := fun k => match k with
  | 0 => .object "MindReaders$Row"
  | _ => .object "MindReaders$Rows"
abbrev wsX10 : List Cond := u_ws RX1 TX1 2
theorem nmX1 : ∀ a, a < 2 → ∀ b, b < 2 → a ≠ b → (TX1 a).2.1 ≠ (TX1 b).2.1 := by decide +kernel
theorem tyX1_ok : ∀ k, k < 2 → parseFieldDescriptor (TX1 k).2.2.1 = some (tyX1 k) := by decide +kernel
def RX2 : String := "MindReaders$Readings"
def TX2 : u_T := fun k => match k with
  | 0 => ("MindReaders$Readings", "lengths", "LMindReaders$Row;", true)
  | _ => ("MindReaders$Readings", "best", "I", false)
def tyX2 : Nat → FieldType := fun k => match k with
  | 0 => .object "MindReaders$Row"
  | _ => .int
abbrev wsX20 : List Cond := u_ws RX2 TX2 2
theorem nmX2 : ∀ a, a < 2 → ∀ b, b < 2 → a ≠ b → (TX2 a).2.1 ≠ (TX2 b).2.1 := by decide +kernel
theorem tyX2_ok : ∀ k, k < 2 → parseFieldDescriptor (TX2 k).2.2.1 = some (tyX2 k) := by decide +kernel
def RX3 : String := "MindReaders$Row"
def TX3 : u_T := fun k => match k with
  | 0 => ("MindReaders$Row", "cells", "[I", true)
  | _ => ("MindReaders$Row", "size", "I", false)
def tyX3 : Nat → FieldType := fun k => match k with
  | 0 => .array .int
  | _ => .int
abbrev wsX30 : List Cond := u_ws RX3 TX3 2
theorem nmX3 : ∀ a, a < 2 → ∀ b, b < 2 → a ≠ b → (TX3 a).2.1 ≠ (TX3 b).2.1 := by decide +kernel
theorem tyX3_ok : ∀ k, k < 2 → parseFieldDescriptor (TX3 k).2.2.1 = some (tyX3 k) := by decide +kernel
def RX4 : String := "MindReaders$Rows"
def TX4 : u_T := fun k => match k with
  | 0 => ("MindReaders$Rows", "rows", "[LMindReaders$Row;", true)
  | _ => ("MindReaders$Rows", "nothing", "LMindReaders$Row;", true)
def tyX4 : Nat → FieldType := fun k => match k with
  | 0 => .array (.object "MindReaders$Row")
  | _ => .object "MindReaders$Row"
abbrev wsX40 : List Cond := u_ws RX4 TX4 2
theorem nmX4 : ∀ a, a < 2 → ∀ b, b < 2 → a ≠ b → (TX4 a).2.1 ≠ (TX4 b).2.1 := by decide +kernel
theorem tyX4_ok : ∀ k, k < 2 → parseFieldDescriptor (TX4 k).2.2.1 = some (tyX4 k) := by decide +kernel
def RX5 : String := "MindReaders$Signals"
def TX5 : u_T := fun k => match k with
  | 0 => ("MindReaders$Signals", "kinds", "LMindReaders$Row;", true)
  | 1 => ("MindReaders$Signals", "tones", "LMindReaders$Row;", true)
  | 2 => ("MindReaders$Signals", "seconds", "LMindReaders$Row;", true)
  | _ => ("MindReaders$Signals", "odds", "LMindReaders$Row;", true)
def tyX5 : Nat → FieldType := fun k => match k with
  | 0 => .object "MindReaders$Row"
  | 1 => .object "MindReaders$Row"
  | 2 => .object "MindReaders$Row"
  | _ => .object "MindReaders$Row"
abbrev wsX50 : List Cond := u_ws RX5 TX5 4
theorem nmX5 : ∀ a, a < 4 → ∀ b, b < 4 → a ≠ b → (TX5 a).2.1 ≠ (TX5 b).2.1 := by decide +kernel
theorem tyX5_ok : ∀ k, k < 4 → parseFieldDescriptor (TX5 k).2.2.1 = some (tyX5 k) := by decide +kernel
def RX6 : String := "MindReaders"
def TX6 : u_T := fun k => match k with
  | 0 => ("MindReaders", "signals", "LMindReaders$Signals;", true)
  | 1 => ("MindReaders", "weights", "LMindReaders$Row;", true)
  | 2 => ("MindReaders", "codes", "[LMindReaders$Code;", true)
  | 3 => ("MindReaders", "codesRead", "I", false)
  | 4 => ("MindReaders", "page", "LMindReaders$Row;", true)
  | 5 => ("MindReaders", "notes", "LMindReaders$Notes;", true)
  | 6 => ("MindReaders", "keptWeights", "LMindReaders$Row;", true)
  | 7 => ("MindReaders", "keptNotes", "LMindReaders$Notes;", true)
  | 8 => ("MindReaders", "kept", "Z", false)
  | 9 => ("MindReaders", "said", "LMindReaders$Row;", true)
  | 10 => ("MindReaders", "heard", "LMindReaders$Row;", true)
  | 11 => ("MindReaders", "pool", "LMindReaders$Row;", true)
  | 12 => ("MindReaders", "struck", "LMindReaders$Rows;", true)
  | _ => ("MindReaders", "readings", "LMindReaders$Readings;", true)
def tyX6 : Nat → FieldType := fun k => match k with
  | 0 => .object "MindReaders$Signals"
  | 1 => .object "MindReaders$Row"
  | 2 => .array (.object "MindReaders$Code")
  | 3 => .int
  | 4 => .object "MindReaders$Row"
  | 5 => .object "MindReaders$Notes"
  | 6 => .object "MindReaders$Row"
  | 7 => .object "MindReaders$Notes"
  | 8 => .boolean
  | 9 => .object "MindReaders$Row"
  | 10 => .object "MindReaders$Row"
  | 11 => .object "MindReaders$Row"
  | 12 => .object "MindReaders$Rows"
  | _ => .object "MindReaders$Readings"
abbrev wsX60 : List Cond := u_ws RX6 TX6 14
theorem nmX6 : ∀ a, a < 14 → ∀ b, b < 14 → a ≠ b → (TX6 a).2.1 ≠ (TX6 b).2.1 := by decide +kernel
theorem tyX6_ok : ∀ k, k < 14 → parseFieldDescriptor (TX6 k).2.2.1 = some (tyX6 k) := by decide +kernel
def RX7 : String := "MindReadersModel"
def TX7 : u_T := fun k => match k with
  | 0 => ("MindReadersModel", "page", "[I", true)
  | 1 => ("MindReadersModel", "pageMany", "I", false)
  | 2 => ("MindReadersModel", "readMany", "I", false)
  | 3 => ("MindReadersModel", "readLetters", "I", false)
  | 4 => ("MindReadersModel", "readRows", "[I", true)
  | 5 => ("MindReadersModel", "codes", "I", false)
  | 6 => ("MindReadersModel", "speeches", "[I", true)
  | 7 => ("MindReadersModel", "rows", "[I", true)
  | 8 => ("MindReadersModel", "signals", "I", false)
  | 9 => ("MindReadersModel", "signalRows", "[I", true)
  | 10 => ("MindReadersModel", "things", "I", false)
  | 11 => ("MindReadersModel", "weights", "[I", true)
  | 12 => ("MindReadersModel", "plain", "[I", true)
  | 13 => ("MindReadersModel", "plainMany", "I", false)
  | 14 => ("MindReadersModel", "plains", "[I", true)
  | 15 => ("MindReadersModel", "ahead", "[I", true)
  | 16 => ("MindReadersModel", "least", "I", false)
  | 17 => ("MindReadersModel", "heap", "[I", true)
  | 18 => ("MindReadersModel", "notes", "I", false)
  | 19 => ("MindReadersModel", "noteRows", "[I", true)
  | 20 => ("MindReadersModel", "ways", "[J", true)
  | 21 => ("MindReadersModel", "before", "[J", true)
  | 22 => ("MindReadersModel", "keptThings", "I", false)
  | 23 => ("MindReadersModel", "keptNotes", "I", false)
  | 24 => ("MindReadersModel", "keptWeights", "[I", true)
  | 25 => ("MindReadersModel", "keptRows", "[I", true)
  | _ => ("MindReadersModel", "hash", "J", false)
def tyX7 : Nat → FieldType := fun k => match k with
  | 0 => .array .int
  | 1 => .int
  | 2 => .int
  | 3 => .int
  | 4 => .array .int
  | 5 => .int
  | 6 => .array .int
  | 7 => .array .int
  | 8 => .int
  | 9 => .array .int
  | 10 => .int
  | 11 => .array .int
  | 12 => .array .int
  | 13 => .int
  | 14 => .array .int
  | 15 => .array .int
  | 16 => .int
  | 17 => .array .int
  | 18 => .int
  | 19 => .array .int
  | 20 => .array .long
  | 21 => .array .long
  | 22 => .int
  | 23 => .int
  | 24 => .array .int
  | 25 => .array .int
  | _ => .long
abbrev wsX70 : List Cond := u_ws RX7 TX7 27
theorem nmX7 : ∀ a, a < 27 → ∀ b, b < 27 → a ≠ b → (TX7 a).2.1 ≠ (TX7 b).2.1 := by decide +kernel
theorem tyX7_ok : ∀ k, k < 27 → parseFieldDescriptor (TX7 k).2.2.1 = some (tyX7 k) := by decide +kernel
def RJ6 : String := "java/lang/Integer"
def RJ9 : String := "java/lang/Math"
def RL : String := "MindReadersLaw"
end
section
/-! ===== a pure reading of the bytecode: values are whole numbers or places; a machine int is a number modulo 2^32 ===== -/
abbrev zV : Type := Int ⊕ (Int ⊕ Option Nat)
abbrev zH : Type := List (Nat × List zV)
abbrev zL : Type := List (Option zV)
abbrev zR : Type := Option zV × zH
abbrev zE : Type := Instr × List Nat × Int
/-- the number that a machine int, long stands for -/
def zw (x : Int) : Int := (x + 2147483648) % 4294967296 - 2147483648
def zwl (x : Int) : Int := (x + 9223372036854775808) % 18446744073709551616 - 9223372036854775808
/-- machine operations on bits -/
def zand (a b : Int) : Int := (Int32.ofInt a &&& Int32.ofInt b).toInt
def zor (a b : Int) : Int := (Int32.ofInt a ||| Int32.ofInt b).toInt
def zshl (a b : Int) : Int := (Int32.ofInt a <<< (Int32.ofInt b &&& 31)).toInt
def zshr (a b : Int) : Int := (Int32.ofInt a >>> (Int32.ofInt b &&& 31)).toInt
def zushr (a b : Int) : Int := ((Int32.ofInt a).toUInt32 >>> ((Int32.ofInt b).toUInt32 &&& Int32.toUInt32 31)).toInt32.toInt
def zandl (a b : Int) : Int := (Int64.ofInt a &&& Int64.ofInt b).toInt
def zorl (a b : Int) : Int := (Int64.ofInt a ||| Int64.ofInt b).toInt
def zshll (a b : Int) : Int := (Int64.ofInt a <<< ((Int32.ofInt b).toInt64 &&& 63)).toInt
def zushrl (a b : Int) : Int := ((Int64.ofInt a).toUInt64 >>> ((Int32.ofInt b).toInt64.toUInt64 &&& Int64.toUInt64 63)).toInt64.toInt
/-- reading and writing cells: place 0 is the script, place q + 1 the heap's cell q; a tag below 100 is a class, 100 int[], 101 long[], above: references -/
def zfd (h : zH) (r : Option Nat) (ci k : Nat) : Option zV := match r with
  | some (p + 1) => match h[p]? with
    | some c => if c.1 = ci then c.2[k]? else none
    | none => none
  | _ => none
def zgi (h : zH) (r : Option Nat) (ci k : Nat) (f : Int → Option zR) : Option zR := match zfd h r ci k with
  | some (.inl v) => f v
  | _ => none
def zgl (h : zH) (r : Option Nat) (ci k : Nat) (f : Int → Option zR) : Option zR := match zfd h r ci k with
  | some (.inr (.inl v)) => f v
  | _ => none
def zgr (h : zH) (r : Option Nat) (ci k : Nat) (f : Option Nat → Option zR) : Option zR := match zfd h r ci k with
  | some (.inr (.inr v)) => f v
  | _ => none
def zput (h : zH) (p k : Nat) (v : zV) : zH := match h[p]? with
  | some c => h.set p (c.1, c.2.set k v)
  | none => h
def zpf (h : zH) (r : Option Nat) (ci k : Nat) (v : zV) (f : zH → Option zR) : Option zR := match r with
  | some (p + 1) => match h[p]? with
    | some c => if c.1 = ci ∧ k < c.2.length then f (h.set p (c.1, c.2.set k v)) else none
    | none => none
  | _ => none
def zar (xs : List Int) (h : zH) (r : Option Nat) (tag : Nat) (i : Int) : Option zV := match r with
  | some 0 => if tag = 100 ∧ 0 ≤ zw i then (xs[(zw i).toNat]?).map .inl else none
  | some (p + 1) => match h[p]? with
    | some c => if c.1 = tag ∧ 0 ≤ zw i then c.2[(zw i).toNat]? else none
    | none => none
  | none => none
def zai (xs : List Int) (h : zH) (r : Option Nat) (i : Int) (f : Int → Option zR) : Option zR := match zar xs h r 100 i with
  | some (.inl v) => f v
  | _ => none
def zal (xs : List Int) (h : zH) (r : Option Nat) (i : Int) (f : Int → Option zR) : Option zR := match zar xs h r 101 i with
  | some (.inr (.inl v)) => f v
  | _ => none
def zaa (xs : List Int) (h : zH) (r : Option Nat) (tag : Nat) (i : Int) (f : Option Nat → Option zR) : Option zR := match zar xs h r tag i with
  | some (.inr (.inr v)) => f v
  | _ => none
def zst (h : zH) (r : Option Nat) (tag : Nat) (i : Int) (v : zV) (f : zH → Option zR) : Option zR := match r with
  | some (p + 1) => match h[p]? with
    | some c => if c.1 = tag ∧ 0 ≤ zw i ∧ (zw i).toNat < c.2.length then f (h.set p (c.1, c.2.set (zw i).toNat v)) else none
    | none => none
  | _ => none
def zln (xs : List Int) (h : zH) (r : Option Nat) (f : Int → Option zR) : Option zR := match r with
  | some 0 => f xs.length
  | some (p + 1) => match h[p]? with
    | some c => if 100 ≤ c.1 then f c.2.length else none
    | none => none
  | none => none
def zro (r : Option Nat) (f : Nat → Option zR) : Option zR := match r with
  | some p => f p
  | none => none
def zif (r : Option Nat) (a : Option zR) (b : Option zR) : Option zR := match r with
  | none => a
  | some _ => b
def zci (o : Option zR) (f : Int → zH → Option zR) : Option zR := match o with
  | some (some (.inl v), h) => f v h
  | _ => none
def zcl (o : Option zR) (f : Int → zH → Option zR) : Option zR := match o with
  | some (some (.inr (.inl v)), h) => f v h
  | _ => none
def zcr (o : Option zR) (f : Option Nat → zH → Option zR) : Option zR := match o with
  | some (some (.inr (.inr v)), h) => f v h
  | _ => none
def zcv (o : Option zR) (f : zH → Option zR) : Option zR := match o with
  | some (none, h) => f h
  | _ => none
/-- the locals -/
def zcat (v : zV) : Nat := match v with
  | .inr (.inl _) => 2
  | _ => 1
def zargs : List zV → zL
  | [] => []
  | .inr (.inl x) :: t => some (.inr (.inl x)) :: none :: zargs t
  | .inl x :: t => some (.inl x) :: zargs t
  | .inr (.inr x) :: t => some (.inr (.inr x)) :: zargs t
def zkeep : List Nat → zL → zL
  | [], _ => []
  | _ :: _, [] => []
  | 0 :: m, _ :: t => none :: zkeep m t
  | (_ + 1) :: m, v :: t => v :: zkeep m t
/-- L with place i set; a long that stood one place before is lost -/
def zset1 : zL → Nat → Option zV → zL
  | [], 0, v => [v]
  | [], i + 1, v => none :: zset1 [] i v
  | _ :: t, 0, v => v :: t
  | some (.inr (.inl _)) :: t, 1, v => none :: zset1 t 0 v
  | a :: t, i + 1, v => a :: zset1 t i v
def zset2 : zL → Nat → Option zV → zL
  | [], 0, v => [v, none]
  | [], i + 1, v => none :: zset2 [] i v
  | [_], 0, v => [v, none]
  | _ :: _ :: t, 0, v => v :: none :: t
  | some (.inr (.inl _)) :: t, 1, v => none :: zset2 t 0 v
  | a :: t, i + 1, v => a :: zset2 t i v
def zld (L : zL) (i : Nat) : Option zV := match L[i]? with
  | some (some v) => some v
  | _ => none
/-- one instruction that neither jumps nor calls: what it leaves goes to k -/
def zS (xs : List Int) (I : Instr) (x : List Nat) (c : Int) (L : zL) (st : List zV) (h : zH) (k : zL → List zV → zH → Option zR) : Option zR := match I with
  | .iconst n => k L (.inl n :: st) h
  | .bipush n => k L (.inl n :: st) h
  | .sipush n => k L (.inl n :: st) h
  | .ldc _ => k L (.inl c :: st) h
  | .ldc_w _ => k L (.inl c :: st) h
  | .lconst n => k L (.inr (.inl ((n : Nat) : Int)) :: st) h
  | .ldc2_w _ => k L (.inr (.inl c) :: st) h
  | .aconst_null => k L (.inr (.inr none) :: st) h
  | .iload i => match zld L i with | some (.inl v) => k L (.inl v :: st) h | _ => none
  | .iload_n i => match zld L i with | some (.inl v) => k L (.inl v :: st) h | _ => none
  | .lload i => match zld L i with | some (.inr (.inl v)) => k L (.inr (.inl v) :: st) h | _ => none
  | .lload_n i => match zld L i with | some (.inr (.inl v)) => k L (.inr (.inl v) :: st) h | _ => none
  | .aload i => match zld L i with | some (.inr (.inr v)) => k L (.inr (.inr v) :: st) h | _ => none
  | .aload_n i => match zld L i with | some (.inr (.inr v)) => k L (.inr (.inr v) :: st) h | _ => none
  | .istore i => match st with | .inl v :: st => k (zset1 L i (some (.inl v))) st h | _ => none
  | .istore_n i => match st with | .inl v :: st => k (zset1 L i (some (.inl v))) st h | _ => none
  | .lstore i => match st with | .inr (.inl v) :: st => k (zset2 L i (some (.inr (.inl v)))) st h | _ => none
  | .lstore_n i => match st with | .inr (.inl v) :: st => k (zset2 L i (some (.inr (.inl v)))) st h | _ => none
  | .astore i => match st with | .inr (.inr v) :: st => k (zset1 L i (some (.inr (.inr v)))) st h | _ => none
  | .astore_n i => match st with | .inr (.inr v) :: st => k (zset1 L i (some (.inr (.inr v)))) st h | _ => none
  | .iinc i n => match zld L i with | some (.inl v) => k (zset1 L i (some (.inl (v + n)))) st h | _ => none
  | .iadd => match st with | .inl b :: .inl a :: st => k L (.inl (a + b) :: st) h | _ => none
  | .isub => match st with | .inl b :: .inl a :: st => k L (.inl (a - b) :: st) h | _ => none
  | .imul => match st with | .inl b :: .inl a :: st => k L (.inl (a * b) :: st) h | _ => none
  | .ineg => match st with | .inl a :: st => k L (.inl (-a) :: st) h | _ => none
  | .idiv => match st with | .inl b :: .inl a :: st => if zw b = 0 then none else k L (.inl ((zw a).tdiv (zw b)) :: st) h | _ => none
  | .irem => match st with | .inl b :: .inl a :: st => if zw b = 0 then none else k L (.inl ((zw a).tmod (zw b)) :: st) h | _ => none
  | .iand => match st with | .inl b :: .inl a :: st => k L (.inl (zand a b) :: st) h | _ => none
  | .ior => match st with | .inl b :: .inl a :: st => k L (.inl (zor a b) :: st) h | _ => none
  | .ishl => match st with | .inl b :: .inl a :: st => k L (.inl (zshl a b) :: st) h | _ => none
  | .ishr => match st with | .inl b :: .inl a :: st => k L (.inl (zshr a b) :: st) h | _ => none
  | .iushr => match st with | .inl b :: .inl a :: st => k L (.inl (zushr a b) :: st) h | _ => none
  | .i2l => match st with | .inl a :: st => k L (.inr (.inl (zw a)) :: st) h | _ => none
  | .l2i => match st with | .inr (.inl a) :: st => k L (.inl a :: st) h | _ => none
  | .ladd => match st with | .inr (.inl b) :: .inr (.inl a) :: st => k L (.inr (.inl (a + b)) :: st) h | _ => none
  | .lsub => match st with | .inr (.inl b) :: .inr (.inl a) :: st => k L (.inr (.inl (a - b)) :: st) h | _ => none
  | .lmul => match st with | .inr (.inl b) :: .inr (.inl a) :: st => k L (.inr (.inl (a * b)) :: st) h | _ => none
  | .lneg => match st with | .inr (.inl a) :: st => k L (.inr (.inl (-a)) :: st) h | _ => none
  | .ldiv => match st with | .inr (.inl b) :: .inr (.inl a) :: st => if zwl b = 0 then none else k L (.inr (.inl ((zwl a).tdiv (zwl b))) :: st) h | _ => none
  | .lrem => match st with | .inr (.inl b) :: .inr (.inl a) :: st => if zwl b = 0 then none else k L (.inr (.inl ((zwl a).tmod (zwl b))) :: st) h | _ => none
  | .land => match st with | .inr (.inl b) :: .inr (.inl a) :: st => k L (.inr (.inl (zandl a b)) :: st) h | _ => none
  | .lor => match st with | .inr (.inl b) :: .inr (.inl a) :: st => k L (.inr (.inl (zorl a b)) :: st) h | _ => none
  | .lshl => match st with | .inl b :: .inr (.inl a) :: st => k L (.inr (.inl (zshll a b)) :: st) h | _ => none
  | .lushr => match st with | .inl b :: .inr (.inl a) :: st => k L (.inr (.inl (zushrl a b)) :: st) h | _ => none
  | .lcmp => match st with | .inr (.inl b) :: .inr (.inl a) :: st => k L (.inl (if zwl a < zwl b then -1 else if zwl a = zwl b then 0 else 1) :: st) h | _ => none
  | .dup => match st with | .inl a :: st => k L (.inl a :: .inl a :: st) h | .inr (.inr a) :: st => k L (.inr (.inr a) :: .inr (.inr a) :: st) h | _ => none
  | .dup2 => match st with | .inl b :: .inr (.inr a) :: st => k L (.inl b :: .inr (.inr a) :: .inl b :: .inr (.inr a) :: st) h | _ => none
  | .pop => match st with | .inl _ :: st => k L st h | .inr (.inr _) :: st => k L st h | _ => none
  | .getfield _ => match x, st with
    | [ci, j, 0], .inr (.inr r) :: st => zgi h r ci j fun v => k L (.inl v :: st) h
    | [ci, j, 1], .inr (.inr r) :: st => zgl h r ci j fun v => k L (.inr (.inl v) :: st) h
    | [ci, j, 2], .inr (.inr r) :: st => zgr h r ci j fun v => k L (.inr (.inr v) :: st) h
    | _, _ => none
  | .putfield _ => match x, st with
    | [ci, j, 0], .inl v :: .inr (.inr r) :: st => zpf h r ci j (.inl v) fun h => k L st h
    | [ci, j, 1], .inr (.inl v) :: .inr (.inr r) :: st => zpf h r ci j (.inr (.inl v)) fun h => k L st h
    | [ci, j, 2], .inr (.inr v) :: .inr (.inr r) :: st => zpf h r ci j (.inr (.inr v)) fun h => k L st h
    | [ci, j, 3], .inl v :: .inr (.inr r) :: st => if v = 0 ∨ v = 1 then zpf h r ci j (.inl v) fun h => k L st h else none
    | _, _ => none
  | .iaload => match st with | .inl i :: .inr (.inr r) :: st => zai xs h r i fun v => k L (.inl v :: st) h | _ => none
  | .laload => match st with | .inl i :: .inr (.inr r) :: st => zal xs h r i fun v => k L (.inr (.inl v) :: st) h | _ => none
  | .aaload => match x, st with | [tag], .inl i :: .inr (.inr r) :: st => zaa xs h r tag i fun v => k L (.inr (.inr v) :: st) h | _, _ => none
  | .iastore => match st with | .inl v :: .inl i :: .inr (.inr r) :: st => zst h r 100 i (.inl v) fun h => k L st h | _ => none
  | .lastore => match st with | .inr (.inl v) :: .inl i :: .inr (.inr r) :: st => zst h r 101 i (.inr (.inl v)) fun h => k L st h | _ => none
  | .aastore => match x, st with | [tag, ci], .inr (.inr (some v)) :: .inl i :: .inr (.inr r) :: st => (match v with | 0 => none | q + 1 => match h[q]? with | some c => if c.1 = ci then zst h r tag i (.inr (.inr (some (q + 1)))) fun h => k L st h else none | none => none) | _, _ => none
  | .arraylength => match st with | .inr (.inr r) :: st => zln xs h r fun v => k L (.inl v :: st) h | _ => none
  | .new _ => match x with
    | ci :: tys => k L (.inr (.inr (some (h.length + 1))) :: st) (h ++ [(ci, tys.map fun t => match t with | 0 => .inl 0 | 1 => .inr (.inl 0) | _ => .inr (.inr none))])
    | _ => none
  | .newarray _ => match x, st with
    | [0], .inl n :: st => if 0 ≤ zw n ∧ zw n ≤ 1000000 then k L (.inr (.inr (some (h.length + 1))) :: st) (h ++ [(100, List.replicate (zw n).toNat (.inl 0))]) else none
    | [1], .inl n :: st => if 0 ≤ zw n ∧ zw n ≤ 1000000 then k L (.inr (.inr (some (h.length + 1))) :: st) (h ++ [(101, List.replicate (zw n).toNat (.inr (.inl 0)))]) else none
    | _, _ => none
  | .anewarray _ => match x, st with
    | [tag], .inl n :: st => if 0 ≤ zw n ∧ zw n ≤ 1000000 then k L (.inr (.inr (some (h.length + 1))) :: st) (h ++ [(tag, List.replicate (zw n).toNat (.inr (.inr none)))]) else none
    | _, _ => none
  | _ => none
def zsel (o : Option Nat) (f : Nat → Option zR) : Option zR := match o with
  | some t => f t
  | none => none
/-- a jump: the locals that live on -/
def zJ (rec : Nat → zL → List zV → zH → Option zR) (x : List Nat) (L : zL) (st : List zV) (h : zH) : Option zR := match x with
  | t :: m => rec t (zkeep m L) st h
  | [] => none
def zY (t : Nat) (o : Option zR) (L : zL) (st : List zV) (k : zL → List zV → zH → Option zR) : Option zR := match t with
  | 0 => zcv o fun h => k L st h
  | 1 => zci o fun v h => k L (.inl v :: st) h
  | 2 => zcl o fun v h => k L (.inr (.inl v) :: st) h
  | 3 => zcr o fun v h => k L (.inr (.inr v) :: st) h
  | _ => none
def zrcv (l : List zV) : Option Nat := match l with
  | .inr (.inr r) :: _ => r
  | _ => none
/-- the receiver is an object of that class -/
def zck (h : zH) (r : Option Nat) (ci : Nat) (o : Option zR) : Option zR := match r with
  | some (p + 1) => match h[p]? with
    | some c => if c.1 = ci then o else none
    | none => none
  | _ => none
/-- words on the stack -/
def zcs : List zV → Nat
  | [] => 0
  | v :: t => zcat v + zcs t
def zX (rec : Nat → Nat → zL → List zV → zH → Option zR) (x : List Nat) (L : zL) (st : List zV) (h : zH) (k : zL → List zV → zH → Option zR) : Option zR := match x with
  | [m, n, t, mx] => if n ≤ st.length ∧ zcs (st.drop n) ≤ 8 ∧ (zargs (st.take n).reverse).length ≤ mx then zY t (rec m 0 (zargs (st.take n).reverse) [] h) L (st.drop n) k else none
  | [m, n, t, mx, ci] => if n ≤ st.length ∧ zcs (st.drop n) ≤ 8 ∧ (zargs (st.take n).reverse).length ≤ mx then zck h (zrcv (st.take n).reverse) ci (zY t (rec m 0 (zargs (st.take n).reverse) [] h) L (st.drop n) k) else none
  | _ => none
/-- one instruction -/
def zI (xs : List Int) (rec : Nat → Nat → zL → List zV → zH → Option zR) (m : Nat) (I : Instr) (x : List Nat) (c : Int) (L : zL) (st : List zV) (h : zH) (k : zL → List zV → zH → Option zR) : Option zR := match I with
  | .nop => zJ (rec m) x L st h
  | .goto _ => zJ (rec m) x L st h
  | .ifCond .eq _ => match st with | .inl a :: st => if zw a = 0 then zJ (rec m) x L st h else k L st h | _ => none
  | .ifCond .ne _ => match st with | .inl a :: st => if zw a ≠ 0 then zJ (rec m) x L st h else k L st h | _ => none
  | .ifCond .lt _ => match st with | .inl a :: st => if zw a < 0 then zJ (rec m) x L st h else k L st h | _ => none
  | .ifCond .ge _ => match st with | .inl a :: st => if 0 ≤ zw a then zJ (rec m) x L st h else k L st h | _ => none
  | .ifCond .gt _ => match st with | .inl a :: st => if 0 < zw a then zJ (rec m) x L st h else k L st h | _ => none
  | .ifCond .le _ => match st with | .inl a :: st => if zw a ≤ 0 then zJ (rec m) x L st h else k L st h | _ => none
  | .if_icmp .eq _ => match st with | .inl b :: .inl a :: st => if zw a = zw b then zJ (rec m) x L st h else k L st h | _ => none
  | .if_icmp .ne _ => match st with | .inl b :: .inl a :: st => if zw a ≠ zw b then zJ (rec m) x L st h else k L st h | _ => none
  | .if_icmp .lt _ => match st with | .inl b :: .inl a :: st => if zw a < zw b then zJ (rec m) x L st h else k L st h | _ => none
  | .if_icmp .ge _ => match st with | .inl b :: .inl a :: st => if zw b ≤ zw a then zJ (rec m) x L st h else k L st h | _ => none
  | .if_icmp .gt _ => match st with | .inl b :: .inl a :: st => if zw b < zw a then zJ (rec m) x L st h else k L st h | _ => none
  | .if_icmp .le _ => match st with | .inl b :: .inl a :: st => if zw a ≤ zw b then zJ (rec m) x L st h else k L st h | _ => none
  | .ifnull _ => match st with | .inr (.inr r) :: st => zif r (zJ (rec m) x L st h) (k L st h) | _ => none
  | .ifnonnull _ => match st with | .inr (.inr r) :: st => zif r (k L st h) (zJ (rec m) x L st h) | _ => none
  | .tableswitch _ lo hi _ => match x, st with
    | n :: d :: x, .inl a :: st => if zw a < lo ∨ hi < zw a then rec m d (zkeep (x.take n) L) st h else zsel ((x.drop n)[(zw a - lo).toNat]?) fun t => rec m t (zkeep (x.take n) L) st h
    | _, _ => none
  | .ireturn => match x, st with
    | [0], [.inl a] => some (some (.inl a), h)
    | [1], [.inl a] => if a = 0 ∨ a = 1 then some (some (.inl a), h) else none
    | _, _ => none
  | .lreturn => match st with | [.inr (.inl a)] => some (some (.inr (.inl a)), h) | _ => none
  | .areturn => match st with | [.inr (.inr a)] => some (some (.inr (.inr a)), h) | _ => none
  | .return_ => match st with | [] => some (none, h) | _ => none
  | .invokevirtual _ => zX rec x L st h k
  | .invokestatic _ => match x with
    | [0] => match st with | .inl b :: .inl a :: st => if zcs st ≤ 8 then k L (.inl (if zw a < zw b then b else a) :: st) h else none | _ => none
    | [1] => match st with | .inl b :: .inl a :: st => if zcs st ≤ 8 then k L (.inl (if zw b < zw a then b else a) :: st) h else none | _ => none
    | x => zX rec x L st h k
  | .invokespecial _ => match x with
    | [] => match st with | [.inr (.inr (some _))] => k L [] h | _ => none
    | x => zX rec x L st h k
  | I => zS xs I x c L st h k
def zB (xs : List Int) (rec : Nat → Nat → zL → List zV → zH → Option zR) (m : Nat) : List zE → zL → List zV → zH → Option zR
  | [], _, _, _ => none
  | (I, x, c) :: t, L, st, h => zI xs rec m I x c L st h (zB xs rec m t)
end
section
/-! ===== what a reading comes to, with no bound on its steps ===== -/
def zrun (B : Nat → Nat → Option (List zE)) (xs : List Int) : Nat → Nat → Nat → zL → List zV → zH → Option zR
  | 0, _, _, _, _, _ => none
  | n + 1, m, pc, L, st, h => match B m pc with
    | some b => zB xs (zrun B xs n) m b L st h
    | none => none
noncomputable def zx (B : Nat → Nat → Option (List zE)) (xs : List Int) (m pc : Nat) (L : zL) (st : List zV) (h : zH) : Option zR :=
  @dite _ (∃ r n, zrun B xs n m pc L st h = some r) (Classical.propDecidable _) (fun q => some (Classical.choose q)) (fun _ => none)
/-- the heap grows -/
def zsz : zH → Nat
  | [] => 0
  | c :: t => c.2.length + zsz t
def zge (h h' : zH) : Prop := h.length ≤ h'.length ∧ zsz h ≤ zsz h'
theorem zge_rf (h : zH) : zge h h := ⟨Nat.le_refl _, Nat.le_refl _⟩
theorem zge_tr {a b c : zH} (h1 : zge a b) (h2 : zge b c) : zge a c := ⟨Nat.le_trans h1.1 h2.1, Nat.le_trans h1.2 h2.2⟩
theorem zsz_app (a b : zH) : zsz (a ++ b) = zsz a + zsz b := by
  induction a with
  | nil => simp [zsz]
  | cons c t ih => simp [zsz, ih]; omega
theorem zsz_set : ∀ (h : zH) (p : Nat) (c c' : Nat × List zV), h[p]? = some c → c'.2.length = c.2.length → zsz (h.set p c') = zsz h
  | [], p, c, c', q, _ => by simp at q
  | d :: t, 0, c, c', q, e => by
    simp at q
    subst q
    simp [zsz, e]
  | d :: t, p + 1, c, c', q, e => by
    simp at q
    simp [zsz, zsz_set t p c c' q e]
theorem zge_set {h : zH} {p : Nat} {c c' : Nat × List zV} (q : h[p]? = some c) (e : c'.2.length = c.2.length) : zge h (h.set p c') := ⟨by simp, Nat.le_of_eq (zsz_set h p c c' q e).symm⟩
theorem zge_app (h : zH) (c : Nat × List zV) : zge h (h ++ [c]) := ⟨by simp, by rw [zsz_app]; omega⟩
/-- a step that passes on at most one state, whatever it is passed to -/
def zlin (h0 : zH) (F : (zL → List zV → zH → Option zR) → Option zR) : Prop := (∀ k, F k = none) ∨ ∃ L' st' h', zge h0 h' ∧ ∀ k, F k = k L' st' h'
theorem zlin_none {h0 : zH} : zlin h0 (fun _ => none) := Or.inl fun _ => rfl
theorem zlin_k (L : zL) (st : List zV) (h : zH) : zlin h (fun k => k L st h) := Or.inr ⟨L, st, h, zge_rf h, fun _ => rfl⟩
theorem zlin_kg {h0 : zH} (L : zL) (st : List zV) (h : zH) (hg : zge h0 h) : zlin h0 (fun k => k L st h) := Or.inr ⟨L, st, h, hg, fun _ => rfl⟩
theorem zlin_if {h0 : zH} {c : Prop} [Decidable c] {F G : (zL → List zV → zH → Option zR) → Option zR} (hF : zlin h0 F) (hG : zlin h0 G) : zlin h0 (fun k => if c then F k else G k) := by
  by_cases hc : c
  · simp only [hc, if_true]; exact hF
  · simp only [hc, if_false]; exact hG
theorem zlin_gi (h : zH) (r : Option Nat) (ci j : Nat) (f : (zL → List zV → zH → Option zR) → Int → Option zR) (hf : ∀ v, zlin h (fun k => f k v)) : zlin h (fun k => zgi h r ci j (f k)) := by
  unfold zgi; rcases zfd h r ci j with _ | v | v | v <;> first | exact zlin_none | exact hf v
theorem zlin_gl (h : zH) (r : Option Nat) (ci j : Nat) (f : (zL → List zV → zH → Option zR) → Int → Option zR) (hf : ∀ v, zlin h (fun k => f k v)) : zlin h (fun k => zgl h r ci j (f k)) := by
  unfold zgl; rcases zfd h r ci j with _ | v | v | v <;> first | exact zlin_none | exact hf v
theorem zlin_gr (h : zH) (r : Option Nat) (ci j : Nat) (f : (zL → List zV → zH → Option zR) → Option Nat → Option zR) (hf : ∀ v, zlin h (fun k => f k v)) : zlin h (fun k => zgr h r ci j (f k)) := by
  unfold zgr; rcases zfd h r ci j with _ | v | v | v <;> first | exact zlin_none | exact hf v
theorem zlin_pf (h : zH) (r : Option Nat) (ci j : Nat) (v : zV) (f : (zL → List zV → zH → Option zR) → zH → Option zR) (hf : ∀ v, zge h v → zlin h (fun k => f k v)) : zlin h (fun k => zpf h r ci j v (f k)) := by
  unfold zpf
  rcases r with _ | _ | p
  · exact zlin_none
  · exact zlin_none
  · dsimp only
    cases hc : h[p]? with
    | none => exact zlin_none
    | some c => exact zlin_if (hf _ (zge_set hc (by simp))) zlin_none
theorem zlin_ai (xs : List Int) (h : zH) (r : Option Nat) (i : Int) (f : (zL → List zV → zH → Option zR) → Int → Option zR) (hf : ∀ v, zlin h (fun k => f k v)) : zlin h (fun k => zai xs h r i (f k)) := by
  unfold zai; rcases zar xs h r 100 i with _ | v | v | v <;> first | exact zlin_none | exact hf v
theorem zlin_al (xs : List Int) (h : zH) (r : Option Nat) (i : Int) (f : (zL → List zV → zH → Option zR) → Int → Option zR) (hf : ∀ v, zlin h (fun k => f k v)) : zlin h (fun k => zal xs h r i (f k)) := by
  unfold zal; rcases zar xs h r 101 i with _ | v | v | v <;> first | exact zlin_none | exact hf v
theorem zlin_aa (xs : List Int) (h : zH) (r : Option Nat) (tag : Nat) (i : Int) (f : (zL → List zV → zH → Option zR) → Option Nat → Option zR) (hf : ∀ v, zlin h (fun k => f k v)) : zlin h (fun k => zaa xs h r tag i (f k)) := by
  unfold zaa; rcases zar xs h r tag i with _ | v | v | v <;> first | exact zlin_none | exact hf v
theorem zlin_st (h : zH) (r : Option Nat) (tag : Nat) (i : Int) (v : zV) (f : (zL → List zV → zH → Option zR) → zH → Option zR) (hf : ∀ v, zge h v → zlin h (fun k => f k v)) : zlin h (fun k => zst h r tag i v (f k)) := by
  unfold zst
  rcases r with _ | _ | p
  · exact zlin_none
  · exact zlin_none
  · dsimp only
    cases hc : h[p]? with
    | none => exact zlin_none
    | some c => exact zlin_if (hf _ (zge_set hc (by simp))) zlin_none
theorem zlin_ln (xs : List Int) (h : zH) (r : Option Nat) (f : (zL → List zV → zH → Option zR) → Int → Option zR) (hf : ∀ v, zlin h (fun k => f k v)) : zlin h (fun k => zln xs h r (f k)) := by
  unfold zln
  rcases r with _ | _ | p
  · exact zlin_none
  · exact hf _
  · dsimp only
    cases h[p]? with
    | none => exact zlin_none
    | some c => exact zlin_if (hf _) zlin_none
theorem zS_lin (xs : List Int) (I : Instr) (x : List Nat) (c : Int) (L : zL) (st : List zV) (h : zH) : zlin h (fun k => zS xs I x c L st h k) := by
  cases I
  case iload i => simp only [zS]; rcases zld L i with _ | v | v | v <;> first | exact zlin_none | exact zlin_k _ _ _
  case iload_n i => simp only [zS]; rcases zld L i with _ | v | v | v <;> first | exact zlin_none | exact zlin_k _ _ _
  case lload i => simp only [zS]; rcases zld L i with _ | v | v | v <;> first | exact zlin_none | exact zlin_k _ _ _
  case lload_n i => simp only [zS]; rcases zld L i with _ | v | v | v <;> first | exact zlin_none | exact zlin_k _ _ _
  case aload i => simp only [zS]; rcases zld L i with _ | v | v | v <;> first | exact zlin_none | exact zlin_k _ _ _
  case aload_n i => simp only [zS]; rcases zld L i with _ | v | v | v <;> first | exact zlin_none | exact zlin_k _ _ _
  case iinc i n => simp only [zS]; rcases zld L i with _ | v | v | v <;> first | exact zlin_none | exact zlin_k _ _ _
  case getfield i =>
    rcases x with _ | ⟨ci, _ | ⟨j, _ | ⟨_ | _ | _ | ty, _ | ⟨x4, x⟩⟩⟩⟩ <;> rcases st with _ | ⟨a | a | a, st⟩ <;> first | exact zlin_none | exact zlin_gi _ _ _ _ _ fun v => zlin_k _ _ _ | exact zlin_gl _ _ _ _ _ fun v => zlin_k _ _ _ | exact zlin_gr _ _ _ _ _ fun v => zlin_k _ _ _
  case putfield i =>
    rcases x with _ | ⟨ci, _ | ⟨j, _ | ⟨_ | _ | _ | _ | ty, _ | ⟨x4, x⟩⟩⟩⟩ <;> rcases st with _ | ⟨a | a | a, _ | ⟨b | b | b, st⟩⟩ <;> first | exact zlin_none | exact zlin_pf _ _ _ _ _ _ fun v hv => zlin_kg _ _ _ hv | exact zlin_if (zlin_pf _ _ _ _ _ _ fun v hv => zlin_kg _ _ _ hv) zlin_none
  case iaload => rcases st with _ | ⟨a | a | a, _ | ⟨b | b | b, st⟩⟩ <;> first | exact zlin_none | exact zlin_ai _ _ _ _ _ fun v => zlin_k _ _ _
  case laload => rcases st with _ | ⟨a | a | a, _ | ⟨b | b | b, st⟩⟩ <;> first | exact zlin_none | exact zlin_al _ _ _ _ _ fun v => zlin_k _ _ _
  case aaload => rcases x with _ | ⟨t, _ | ⟨t2, x⟩⟩ <;> rcases st with _ | ⟨a | a | a, _ | ⟨b | b | b, st⟩⟩ <;> first | exact zlin_none | exact zlin_aa _ _ _ _ _ _ fun v => zlin_k _ _ _
  case iastore => rcases st with _ | ⟨a | a | a, _ | ⟨b | b | b, _ | ⟨d | d | d, st⟩⟩⟩ <;> first | exact zlin_none | exact zlin_st _ _ _ _ _ _ fun v hv => zlin_kg _ _ _ hv
  case lastore => rcases st with _ | ⟨a | a | a, _ | ⟨b | b | b, _ | ⟨d | d | d, st⟩⟩⟩ <;> first | exact zlin_none | exact zlin_st _ _ _ _ _ _ fun v hv => zlin_kg _ _ _ hv
  case aastore =>
    rcases x with _ | ⟨t, _ | ⟨t2, _ | ⟨t3, x⟩⟩⟩ <;> rcases st with _ | ⟨a | a | (_ | _ | a), _ | ⟨b | b | b, _ | ⟨d | d | d, st⟩⟩⟩ <;> first | exact zlin_none | skip
    simp only [zS]
    cases h[a]? with
    | none => exact zlin_none
    | some c => exact zlin_if (zlin_st _ _ _ _ _ _ fun v hv => zlin_kg _ _ _ hv) zlin_none
  case arraylength => rcases st with _ | ⟨a | a | a, st⟩ <;> first | exact zlin_none | exact (show zlin h (fun k => zln xs h a fun v => k L (.inl v :: st) h) from zlin_ln _ _ _ (fun k v => k L (.inl v :: st) h) fun v => zlin_k _ _ _)
  case new i => rcases x with _ | ⟨t, x⟩ <;> first | exact zlin_none | exact zlin_kg _ _ _ (zge_app _ _)
  case newarray i =>
    rcases x with _ | ⟨_ | _ | t, _ | ⟨t2, x⟩⟩ <;> rcases st with _ | ⟨a | a | a, st⟩ <;> first | exact zlin_none | exact zlin_if (zlin_kg _ _ _ (zge_app _ _)) zlin_none
  case anewarray i =>
    rcases x with _ | ⟨t, _ | ⟨t2, x⟩⟩ <;> rcases st with _ | ⟨a | a | a, st⟩ <;> first | exact zlin_none | exact zlin_if (zlin_kg _ _ _ (zge_app _ _)) zlin_none
  all_goals first
    | exact zlin_none
    | exact zlin_k _ _ _
    | (rcases st with _ | ⟨a | a | a, st⟩ <;> first | exact zlin_none | exact zlin_k _ _ _ | (rcases st with _ | ⟨b | b | b, st⟩ <;> first | exact zlin_none | exact zlin_k _ _ _ | exact zlin_if zlin_none (zlin_k _ _ _)))

/-- what a bounded reading gives, a longer one gives; what the limit gives, a bounded one gives -/
theorem zcont_J (B : Nat → Nat → Option (List zE)) (R : Nat → Nat → Nat → zL → List zV → zH → Option zR) (R0 : Nat → Nat → zL → List zV → zH → Option zR) (hR : ∀ m pc L st h r, R0 m pc L st h = some r → ∃ N, ∀ n, N ≤ n → R n m pc L st h = some r)
    (m : Nat) (x : List Nat) (L : zL) (st : List zV) (h : zH) (r : zR) (q : zJ (R0 m) x L st h = some r) : ∃ N, ∀ n, N ≤ n → zJ (R n m) x L st h = some r := by
  rcases x with _ | ⟨t, x⟩
  · cases q
  · exact hR _ _ _ _ _ _ q
theorem zcont_if {c : Prop} [Decidable c] {a0 b0 : Option zR} {a b : Nat → Option zR} {r : zR} (ha : a0 = some r → ∃ N, ∀ n, N ≤ n → a n = some r) (hb : b0 = some r → ∃ N, ∀ n, N ≤ n → b n = some r) (q : (if c then a0 else b0) = some r) : ∃ N, ∀ n, N ≤ n → (if c then a n else b n) = some r := by
  by_cases hc : c
  · rw [if_pos hc] at q
    obtain ⟨N, e⟩ := ha q
    exact ⟨N, fun n hn => by rw [if_pos hc]; exact e n hn⟩
  · rw [if_neg hc] at q
    obtain ⟨N, e⟩ := hb q
    exact ⟨N, fun n hn => by rw [if_neg hc]; exact e n hn⟩
theorem zcont_Y {o0 : Option zR} {o : Nat → Option zR} (ho : ∀ r1, o0 = some r1 → ∃ N, ∀ n, N ≤ n → o n = some r1) (t : Nat) (L : zL) (st : List zV) (k0 : zL → List zV → zH → Option zR) (k : Nat → zL → List zV → zH → Option zR) (r : zR) (hk : ∀ L' st' h', k0 L' st' h' = some r → ∃ N, ∀ n, N ≤ n → k n L' st' h' = some r)
    (q : zY t o0 L st k0 = some r) : ∃ N, ∀ n, N ≤ n → zY t (o n) L st (k n) = some r := by
  cases h1 : o0 with
  | none => rcases t with _ | _ | _ | _ | t <;> rw [h1] at q <;> cases q
  | some r1 =>
    obtain ⟨N1, e1⟩ := ho r1 h1
    rw [h1] at q
    obtain ⟨v, h2⟩ := r1
    rcases t with _ | _ | _ | _ | t <;> rcases v with _ | v | v | v <;> simp only [zY, zcv, zci, zcl, zcr] at q <;> first
      | (cases q; done)
      | (obtain ⟨N2, e2⟩ := hk _ _ _ q
         refine ⟨max N1 N2, fun n' hn' => ?_⟩
         rw [e1 n' (by omega)]
         exact e2 n' (by omega))
theorem zcont_ck {o0 : Option zR} {o : Nat → Option zR} {r : zR} (ho : o0 = some r → ∃ N, ∀ n, N ≤ n → o n = some r) (h : zH) (rr : Option Nat) (ci : Nat) (q : zck h rr ci o0 = some r) : ∃ N, ∀ n, N ≤ n → zck h rr ci (o n) = some r := by
  unfold zck at q ⊢
  rcases rr with _ | _ | p
  · cases q
  · cases q
  · dsimp only at q ⊢
    cases hc : h[p]? with
    | none => rw [hc] at q; cases q
    | some c =>
      rw [hc] at q
      exact zcont_if ho (fun q => by cases q) q
theorem zcont_X (R : Nat → Nat → Nat → zL → List zV → zH → Option zR) (R0 : Nat → Nat → zL → List zV → zH → Option zR) (hR : ∀ m pc L st h r, R0 m pc L st h = some r → ∃ N, ∀ n, N ≤ n → R n m pc L st h = some r)
    (x : List Nat) (L : zL) (st : List zV) (h : zH) (k0 : zL → List zV → zH → Option zR) (k : Nat → zL → List zV → zH → Option zR) (r : zR) (hk : ∀ L' st' h', k0 L' st' h' = some r → ∃ N, ∀ n, N ≤ n → k n L' st' h' = some r)
    (q : zX R0 x L st h k0 = some r) : ∃ N, ∀ n, N ≤ n → zX (R n) x L st h (k n) = some r := by
  rcases x with _ | ⟨m, _ | ⟨n, _ | ⟨t, _ | ⟨mx, _ | ⟨t2, _ | ⟨t3, x⟩⟩⟩⟩⟩⟩
  · cases q
  · cases q
  · cases q
  · cases q
  · exact zcont_if (zcont_Y (fun r1 q1 => hR _ _ _ _ _ _ q1) t L _ k0 k r hk) (fun q => by cases q) q
  · exact zcont_if (zcont_ck (zcont_Y (fun r1 q1 => hR _ _ _ _ _ _ q1) t L _ k0 k r hk) h _ _) (fun q => by cases q) q
  · cases q
theorem zcont_lin {h0 : zH} {F : (zL → List zV → zH → Option zR) → Option zR} (hF : zlin h0 F) {k0 : zL → List zV → zH → Option zR} {k : Nat → zL → List zV → zH → Option zR} {r : zR} (hk : ∀ L' st' h', k0 L' st' h' = some r → ∃ N, ∀ n, N ≤ n → k n L' st' h' = some r) (q : F k0 = some r) : ∃ N, ∀ n, N ≤ n → F (k n) = some r := by
  rcases hF with hF | ⟨L', st', h', -, hF⟩
  · rw [hF] at q; cases q
  · rw [hF] at q
    obtain ⟨N, e⟩ := hk _ _ _ q
    exact ⟨N, fun n hn => by rw [hF]; exact e n hn⟩
theorem zcont_I (xs : List Int) (R : Nat → Nat → Nat → zL → List zV → zH → Option zR) (R0 : Nat → Nat → zL → List zV → zH → Option zR) (hR : ∀ m pc L st h r, R0 m pc L st h = some r → ∃ N, ∀ n, N ≤ n → R n m pc L st h = some r)
    (m : Nat) (I : Instr) (x : List Nat) (c : Int) (L : zL) (st : List zV) (h : zH) (k0 : zL → List zV → zH → Option zR) (k : Nat → zL → List zV → zH → Option zR) (r : zR) (hk : ∀ L' st' h', k0 L' st' h' = some r → ∃ N, ∀ n, N ≤ n → k n L' st' h' = some r)
    (q : zI xs R0 m I x c L st h k0 = some r) : ∃ N, ∀ n, N ≤ n → zI xs (R n) m I x c L st h (k n) = some r := by
  have hJ : ∀ (L : zL) (st : List zV) (h : zH), zJ (R0 m) x L st h = some r → ∃ N, ∀ n, N ≤ n → zJ (R n m) x L st h = some r := fun L st h => zcont_J (fun _ _ => none) R R0 hR m x L st h r
  have hX := fun (L : zL) (st : List zV) (h : zH) => zcont_X R R0 hR x L st h k0 k r hk
  obtain ⟨J, hJ0⟩ : ∃ J, J = I := ⟨I, rfl⟩
  cases I
  case ifCond cnd off =>
    cases cnd <;> rcases st with _ | ⟨a | a | a, st⟩ <;> first
      | (cases q; done)
      | exact zcont_if (hJ _ _ _) (hk _ _ _) q
  case if_icmp cnd off =>
    cases cnd <;> rcases st with _ | ⟨a | a | a, _ | ⟨b | b | b, st⟩⟩ <;> first
      | (cases q; done)
      | exact zcont_if (hJ _ _ _) (hk _ _ _) q
  case ifnull off =>
    rcases st with _ | ⟨a | a | (_ | a), st⟩ <;> first | (cases q; done) | exact hJ _ _ _ q | exact hk _ _ _ q
  case ifnonnull off =>
    rcases st with _ | ⟨a | a | (_ | a), st⟩ <;> first | (cases q; done) | exact hJ _ _ _ q | exact hk _ _ _ q
  case tableswitch d lo hi offs =>
    rcases x with _ | ⟨n, _ | ⟨d2, x⟩⟩ <;> rcases st with _ | ⟨a | a | a, st⟩ <;> first | (cases q; done) | skip
    simp only [zI] at q ⊢
    split at q
    next hc => simp only [hc, if_true]; exact hR _ _ _ _ _ _ q
    next hc =>
      simp only [hc, if_false]
      cases ht : (x.drop n)[(zw a - lo).toNat]? with
      | none => rw [ht] at q; cases q
      | some t => rw [ht] at q; exact hR _ _ _ _ _ _ q
  case ireturn => exact ⟨0, fun _ _ => q⟩
  case lreturn => exact ⟨0, fun _ _ => q⟩
  case areturn => exact ⟨0, fun _ _ => q⟩
  case return_ => exact ⟨0, fun _ _ => q⟩
  case invokevirtual i => exact hX _ _ _ q
  case invokestatic i =>
    rcases x with _ | ⟨_ | _ | t, _ | ⟨t2, x⟩⟩
    · exact hX L st h q
    · rcases st with _ | ⟨b | b | b, _ | ⟨a | a | a, st⟩⟩ <;> first | (cases q; done) | exact zcont_if (hk _ _ _) (fun q => by cases q) q
    · exact hX L st h q
    · rcases st with _ | ⟨b | b | b, _ | ⟨a | a | a, st⟩⟩ <;> first | (cases q; done) | exact zcont_if (hk _ _ _) (fun q => by cases q) q
    · exact hX L st h q
    · exact hX L st h q
    · exact hX L st h q
  case invokespecial i =>
    rcases x with _ | ⟨t, x⟩
    · rcases st with _ | ⟨a | a | (_ | a), _ | ⟨b, st⟩⟩ <;> first | (cases q; done) | exact hk _ _ _ q
    · exact hX L st h q
  case nop => exact hJ _ _ _ q
  case goto off => exact hJ _ _ _ q
  all_goals
    have z := zS_lin xs J x c L st h
    rw [hJ0] at z
    exact zcont_lin z hk q
theorem zcont_B (xs : List Int) (R : Nat → Nat → Nat → zL → List zV → zH → Option zR) (R0 : Nat → Nat → zL → List zV → zH → Option zR) (hR : ∀ m pc L st h r, R0 m pc L st h = some r → ∃ N, ∀ n, N ≤ n → R n m pc L st h = some r)
    (m : Nat) (r : zR) : ∀ (b : List zE) (L : zL) (st : List zV) (h : zH), zB xs R0 m b L st h = some r → ∃ N, ∀ n, N ≤ n → zB xs (R n) m b L st h = some r
  | [], _, _, _, q => by cases q
  | (I, x, c) :: t, L, st, h, q => zcont_I xs R R0 hR m I x c L st h (zB xs R0 m t) (fun n => zB xs (R n) m t) r (fun L' st' h' q' => zcont_B xs R R0 hR m r t L' st' h' q') q
theorem zrun_succ (B : Nat → Nat → Option (List zE)) (xs : List Int) : ∀ (n m pc : Nat) (L : zL) (st : List zV) (h : zH) (r : zR), zrun B xs n m pc L st h = some r → zrun B xs (n + 1) m pc L st h = some r := by
  intro n
  induction n with
  | zero => intro m pc L st h r q; cases q
  | succ n ih =>
    intro m pc L st h r q
    rw [zrun] at q ⊢
    cases hb : B m pc with
    | none => rw [hb] at q; cases q
    | some b =>
      rw [hb] at q
      obtain ⟨N, e⟩ := zcont_B xs (fun _ => zrun B xs (n + 1)) (zrun B xs n) (fun m pc L st h r q => ⟨0, fun _ _ => ih m pc L st h r q⟩) m r b L st h q
      exact e N (Nat.le_refl _)
theorem zrun_le (B : Nat → Nat → Option (List zE)) (xs : List Int) {n n' m pc : Nat} {L : zL} {st : List zV} {h : zH} {r : zR} (hn : n ≤ n') (q : zrun B xs n m pc L st h = some r) : zrun B xs n' m pc L st h = some r := by
  induction hn with
  | refl => exact q
  | step _ ih => exact zrun_succ B xs _ _ _ _ _ _ _ ih
theorem zx_iff (B : Nat → Nat → Option (List zE)) (xs : List Int) (m pc : Nat) (L : zL) (st : List zV) (h : zH) (r : zR) : zx B xs m pc L st h = some r ↔ ∃ n, zrun B xs n m pc L st h = some r := by
  unfold zx
  constructor
  · intro q
    split at q
    next hq =>
      obtain ⟨n, e⟩ := Classical.choose_spec hq
      cases q
      exact ⟨n, e⟩
    next => cases q
  · rintro ⟨n, e⟩
    have hq : ∃ r n, zrun B xs n m pc L st h = some r := ⟨r, n, e⟩
    rw [dif_pos hq]
    obtain ⟨n', e'⟩ := Classical.choose_spec hq
    have h1 := zrun_le B xs (Nat.le_max_left n n') e
    have h2 := zrun_le B xs (Nat.le_max_right n n') e'
    rw [h1] at h2
    exact h2.symm
theorem zx_unfold (B : Nat → Nat → Option (List zE)) (xs : List Int) (m pc : Nat) (b : List zE) (hb : B m pc = some b) (L : zL) (st : List zV) (h : zH) : zx B xs m pc L st h = zB xs (zx B xs) m b L st h := by
  have k1 : ∀ r, zx B xs m pc L st h = some r → zB xs (zx B xs) m b L st h = some r := by
    intro r q
    obtain ⟨n, e⟩ := (zx_iff B xs m pc L st h r).mp q
    cases n with
    | zero => cases e
    | succ n =>
      rw [zrun, hb] at e
      obtain ⟨N, e2⟩ := zcont_B xs (fun _ => zx B xs) (zrun B xs n) (fun m pc L st h r q => ⟨0, fun _ _ => (zx_iff B xs m pc L st h r).mpr ⟨n, q⟩⟩) m r b L st h e
      exact e2 N (Nat.le_refl _)
  have k2 : ∀ r, zB xs (zx B xs) m b L st h = some r → zx B xs m pc L st h = some r := by
    intro r q
    obtain ⟨N, e⟩ := zcont_B xs (zrun B xs) (zx B xs) (fun m pc L st h r q => by
      obtain ⟨n, e⟩ := (zx_iff B xs m pc L st h r).mp q
      exact ⟨n, fun n' hn' => zrun_le B xs hn' e⟩) m r b L st h q
    exact (zx_iff B xs m pc L st h r).mpr ⟨N + 1, by rw [zrun, hb]; exact e N (Nat.le_refl _)⟩
  cases h1 : zx B xs m pc L st h with
  | some r => exact (k1 r h1).symm
  | none =>
    cases h2 : zB xs (zx B xs) m b L st h with
    | none => rfl
    | some r => rw [k2 r h2] at h1; cases h1

/-- what is read leaves the heap no smaller -/
theorem zgrow_J (rec : Nat → zL → List zV → zH → Option zR) {r : zR} (hr : ∀ pc L st h, rec pc L st h = some r → zge h r.2) (x : List Nat) (L : zL) (st : List zV) (h : zH) (q : zJ rec x L st h = some r) : zge h r.2 := by
  rcases x with _ | ⟨t, x⟩
  · cases q
  · exact hr _ _ _ _ q
theorem zgrow_if {c : Prop} [Decidable c] {a b : Option zR} {r : zR} {P : Prop} (ha : a = some r → P) (hb : b = some r → P) (q : (if c then a else b) = some r) : P := by
  by_cases hc : c
  · rw [if_pos hc] at q; exact ha q
  · rw [if_neg hc] at q; exact hb q
theorem zgrow_Y {o : Option zR} {h : zH} (ho : ∀ r1, o = some r1 → zge h r1.2) (t : Nat) (L : zL) (st : List zV) (k : zL → List zV → zH → Option zR) (r : zR) (hk : ∀ L' st' h', k L' st' h' = some r → zge h' r.2)
    (q : zY t o L st k = some r) : zge h r.2 := by
  cases h1 : o with
  | none => rcases t with _ | _ | _ | _ | t <;> rw [h1] at q <;> cases q
  | some r1 =>
    have e1 := ho r1 h1
    rw [h1] at q
    obtain ⟨v, h2⟩ := r1
    rcases t with _ | _ | _ | _ | t <;> rcases v with _ | v | v | v <;> simp only [zY, zcv, zci, zcl, zcr] at q <;> first
      | (cases q; done)
      | exact zge_tr e1 (hk _ _ _ q)
theorem zgrow_ck {o : Option zR} {r : zR} {P : Prop} (ho : o = some r → P) (h : zH) (rr : Option Nat) (ci : Nat) (q : zck h rr ci o = some r) : P := by
  unfold zck at q
  rcases rr with _ | _ | p
  · cases q
  · cases q
  · dsimp only at q
    cases hc : h[p]? with
    | none => rw [hc] at q; cases q
    | some c =>
      rw [hc] at q
      exact zgrow_if ho (fun q => by cases q) q
theorem zgrow_X (rec : Nat → Nat → zL → List zV → zH → Option zR) (hr : ∀ m pc L st h r, rec m pc L st h = some r → zge h r.2) (x : List Nat) (L : zL) (st : List zV) (h : zH) (k : zL → List zV → zH → Option zR) (r : zR) (hk : ∀ L' st' h', k L' st' h' = some r → zge h' r.2)
    (q : zX rec x L st h k = some r) : zge h r.2 := by
  rcases x with _ | ⟨m, _ | ⟨n, _ | ⟨t, _ | ⟨mx, _ | ⟨t2, _ | ⟨t3, x⟩⟩⟩⟩⟩⟩
  · cases q
  · cases q
  · cases q
  · cases q
  · exact zgrow_if (zgrow_Y (fun r1 q1 => hr _ _ _ _ _ _ q1) t L _ k r hk) (fun q => by cases q) q
  · exact zgrow_if (zgrow_ck (zgrow_Y (fun r1 q1 => hr _ _ _ _ _ _ q1) t L _ k r hk) h _ _) (fun q => by cases q) q
  · cases q
theorem zgrow_lin {h : zH} {F : (zL → List zV → zH → Option zR) → Option zR} (hF : zlin h F) {k : zL → List zV → zH → Option zR} {r : zR} (hk : ∀ L' st' h', k L' st' h' = some r → zge h' r.2) (q : F k = some r) : zge h r.2 := by
  rcases hF with hF | ⟨L', st', h', hg, hF⟩
  · rw [hF] at q; cases q
  · rw [hF] at q
    exact zge_tr hg (hk _ _ _ q)
theorem zgrow_I (xs : List Int) (rec : Nat → Nat → zL → List zV → zH → Option zR) (hr : ∀ m pc L st h r, rec m pc L st h = some r → zge h r.2)
    (m : Nat) (I : Instr) (x : List Nat) (c : Int) (L : zL) (st : List zV) (h : zH) (k : zL → List zV → zH → Option zR) (r : zR) (hk : ∀ L' st' h', k L' st' h' = some r → zge h' r.2)
    (q : zI xs rec m I x c L st h k = some r) : zge h r.2 := by
  have hJ : ∀ (L : zL) (st : List zV) (h : zH), zJ (rec m) x L st h = some r → zge h r.2 := fun L st h => zgrow_J (rec m) (fun pc L st h q => hr m pc L st h r q) x L st h
  have hX := fun (L : zL) (st : List zV) (h : zH) => zgrow_X rec hr x L st h k r hk
  obtain ⟨J, hJ0⟩ : ∃ J, J = I := ⟨I, rfl⟩
  cases I
  case ifCond cnd off =>
    cases cnd <;> rcases st with _ | ⟨a | a | a, st⟩ <;> first
      | (cases q; done)
      | exact zgrow_if (hJ _ _ _) (hk _ _ _) q
  case if_icmp cnd off =>
    cases cnd <;> rcases st with _ | ⟨a | a | a, _ | ⟨b | b | b, st⟩⟩ <;> first
      | (cases q; done)
      | exact zgrow_if (hJ _ _ _) (hk _ _ _) q
  case ifnull off =>
    rcases st with _ | ⟨a | a | (_ | a), st⟩ <;> first | (cases q; done) | exact hJ _ _ _ q | exact hk _ _ _ q
  case ifnonnull off =>
    rcases st with _ | ⟨a | a | (_ | a), st⟩ <;> first | (cases q; done) | exact hJ _ _ _ q | exact hk _ _ _ q
  case tableswitch d lo hi offs =>
    rcases x with _ | ⟨n, _ | ⟨d2, x⟩⟩ <;> rcases st with _ | ⟨a | a | a, st⟩ <;> first | (cases q; done) | skip
    simp only [zI] at q
    split at q
    next hc => exact hr _ _ _ _ _ _ q
    next hc =>
      cases ht : (x.drop n)[(zw a - lo).toNat]? with
      | none => rw [ht] at q; cases q
      | some t => rw [ht] at q; exact hr _ _ _ _ _ _ q
  case ireturn =>
    rcases x with _ | ⟨_ | _ | t, _ | ⟨t2, x⟩⟩ <;> rcases st with _ | ⟨a | a | a, _ | ⟨b, st⟩⟩ <;> first
      | (cases q; done)
      | (cases q; exact zge_rf _)
      | (exact zgrow_if (fun q => by cases q; exact zge_rf _) (fun q => by cases q) q)
  case lreturn => rcases st with _ | ⟨a | a | a, _ | ⟨b, st⟩⟩ <;> first | (cases q; done) | (cases q; exact zge_rf _)
  case areturn => rcases st with _ | ⟨a | a | a, _ | ⟨b, st⟩⟩ <;> first | (cases q; done) | (cases q; exact zge_rf _)
  case return_ => rcases st with _ | ⟨a, st⟩ <;> first | (cases q; done) | (cases q; exact zge_rf _)
  case invokevirtual i => exact hX _ _ _ q
  case invokestatic i =>
    rcases x with _ | ⟨_ | _ | t, _ | ⟨t2, x⟩⟩
    · exact hX L st h q
    · rcases st with _ | ⟨b | b | b, _ | ⟨a | a | a, st⟩⟩ <;> first | (cases q; done) | exact zgrow_if (hk _ _ _) (fun q => by cases q) q
    · exact hX L st h q
    · rcases st with _ | ⟨b | b | b, _ | ⟨a | a | a, st⟩⟩ <;> first | (cases q; done) | exact zgrow_if (hk _ _ _) (fun q => by cases q) q
    · exact hX L st h q
    · exact hX L st h q
    · exact hX L st h q
  case invokespecial i =>
    rcases x with _ | ⟨t, x⟩
    · rcases st with _ | ⟨a | a | (_ | a), _ | ⟨b, st⟩⟩ <;> first | (cases q; done) | exact hk _ _ _ q
    · exact hX L st h q
  case nop => exact hJ _ _ _ q
  case goto off => exact hJ _ _ _ q
  all_goals
    have z := zS_lin xs J x c L st h
    rw [hJ0] at z
    exact zgrow_lin z hk q
theorem zgrow_B (xs : List Int) (rec : Nat → Nat → zL → List zV → zH → Option zR) (hr : ∀ m pc L st h r, rec m pc L st h = some r → zge h r.2)
    (m : Nat) (r : zR) : ∀ (b : List zE) (L : zL) (st : List zV) (h : zH), zB xs rec m b L st h = some r → zge h r.2
  | [], _, _, _, q => by cases q
  | (I, x, c) :: t, L, st, h, q => zgrow_I xs rec hr m I x c L st h (zB xs rec m t) r (fun L' st' h' q' => zgrow_B xs rec hr m r t L' st' h' q') q
theorem zgrow_run (B : Nat → Nat → Option (List zE)) (xs : List Int) : ∀ (n m pc : Nat) (L : zL) (st : List zV) (h : zH) (r : zR), zrun B xs n m pc L st h = some r → zge h r.2 := by
  intro n
  induction n with
  | zero => intro m pc L st h r q; cases q
  | succ n ih =>
    intro m pc L st h r q
    rw [zrun] at q
    cases hb : B m pc with
    | none => rw [hb] at q; cases q
    | some b =>
      rw [hb] at q
      exact zgrow_B xs _ ih m r b L st h q
end
section
/-! ===== whole numbers and machine numbers ===== -/
theorem zw_toInt (a : Int) : (Int32.ofInt a).toInt = zw a := by
  rw [Int32.toInt_ofInt, Int.bmod_def]
  unfold zw
  simp only [Int32.size]
  split <;> omega
theorem zwl_toInt (a : Int) : (Int64.ofInt a).toInt = zwl a := by
  rw [Int64.toInt_ofInt, Int.bmod_def]
  unfold zwl
  simp only [Int64.size]
  split <;> omega
theorem zw_of (a : Int) : Int32.ofInt (zw a) = Int32.ofInt a := by rw [← zw_toInt, Int32.ofInt_toInt]
theorem zwl_of (a : Int) : Int64.ofInt (zwl a) = Int64.ofInt a := by rw [← zwl_toInt, Int64.ofInt_toInt]
theorem zw_lo (a : Int) : -2147483648 ≤ zw a := by unfold zw; omega
theorem zw_hi (a : Int) : zw a ≤ 2147483647 := by unfold zw; omega
theorem zw_id {a : Int} (h1 : -2147483648 ≤ a) (h2 : a ≤ 2147483647) : zw a = a := by unfold zw; omega
theorem zwl_lo (a : Int) : -9223372036854775808 ≤ zwl a := by unfold zwl; omega
theorem zwl_hi (a : Int) : zwl a ≤ 9223372036854775807 := by unfold zwl; omega
theorem zwl_id {a : Int} (h1 : -9223372036854775808 ≤ a) (h2 : a ≤ 9223372036854775807) : zwl a = a := by unfold zwl; omega
theorem zw_min : Int32.minValue.toInt = -2147483648 := by decide
theorem zw_max : Int32.maxValue.toInt = 2147483647 := by decide
theorem zwl_min : Int64.minValue.toInt = -9223372036854775808 := by decide
theorem zwl_max : Int64.maxValue.toInt = 9223372036854775807 := by decide
theorem zw_div (a b : Int) : Int32.ofInt ((zw a).tdiv (zw b)) = Int32.ofInt a / Int32.ofInt b := by
  rw [Int32.ofInt_tdiv (by rw [zw_min]; exact zw_lo a) (by rw [zw_max]; exact zw_hi a) (by rw [zw_min]; exact zw_lo b) (by rw [zw_max]; exact zw_hi b), zw_of, zw_of]
theorem zwl_div (a b : Int) : Int64.ofInt ((zwl a).tdiv (zwl b)) = Int64.ofInt a / Int64.ofInt b := by
  rw [Int64.ofInt_tdiv (by rw [zwl_min]; exact zwl_lo a) (by rw [zwl_max]; exact zwl_hi a) (by rw [zwl_min]; exact zwl_lo b) (by rw [zwl_max]; exact zwl_hi b), zwl_of, zwl_of]
theorem zw_mod (a b : Int) : Int32.ofInt ((zw a).tmod (zw b)) = Int32.ofInt a - Int32.ofInt a / Int32.ofInt b * Int32.ofInt b := by
  have h : (zw a).tmod (zw b) = zw a - (zw a).tdiv (zw b) * zw b := by rw [Int.tmod_def, Int.mul_comm]
  rw [h, Int32.ofInt_sub, Int32.ofInt_mul, zw_div, zw_of, zw_of]
theorem zwl_mod (a b : Int) : Int64.ofInt ((zwl a).tmod (zwl b)) = Int64.ofInt a - Int64.ofInt a / Int64.ofInt b * Int64.ofInt b := by
  have h : (zwl a).tmod (zwl b) = zwl a - (zwl a).tdiv (zwl b) * zwl b := by rw [Int.tmod_def, Int.mul_comm]
  rw [h, Int64.ofInt_sub, Int64.ofInt_mul, zwl_div, zwl_of, zwl_of]
theorem zw_eq (a b : Int) : Int32.ofInt a = Int32.ofInt b ↔ zw a = zw b := by rw [← Int32.toInt_inj, zw_toInt, zw_toInt]
theorem zw_lt (a b : Int) : Int32.ofInt a < Int32.ofInt b ↔ zw a < zw b := by rw [Int32.lt_iff_toInt_lt, zw_toInt, zw_toInt]
theorem zw_le (a b : Int) : Int32.ofInt a ≤ Int32.ofInt b ↔ zw a ≤ zw b := by rw [Int32.le_iff_toInt_le, zw_toInt, zw_toInt]
theorem zwl_eq (a b : Int) : Int64.ofInt a = Int64.ofInt b ↔ zwl a = zwl b := by rw [← Int64.toInt_inj, zwl_toInt, zwl_toInt]
theorem zwl_lt (a b : Int) : Int64.ofInt a < Int64.ofInt b ↔ zwl a < zwl b := by rw [Int64.lt_iff_toInt_lt, zwl_toInt, zwl_toInt]
theorem zw_eq0 (a : Int) : Int32.ofInt a = 0 ↔ zw a = 0 := by
  have h := zw_eq a 0
  rw [show zw 0 = 0 by rfl] at h
  exact h
theorem zwl_eq0 (a : Int) : Int64.ofInt a = 0 ↔ zwl a = 0 := by
  have h := zwl_eq a 0
  rw [show zwl 0 = 0 by rfl] at h
  exact h
theorem zw_lt0 (a : Int) : Int32.ofInt a < 0 ↔ zw a < 0 := by
  have h := zw_lt a 0
  rw [show zw 0 = 0 by rfl] at h
  exact h
theorem zw_gt0 (a : Int) : 0 < Int32.ofInt a ↔ 0 < zw a := by
  have h := zw_lt 0 a
  rw [show zw 0 = 0 by rfl] at h
  exact h
theorem zw_le0 (a : Int) : Int32.ofInt a ≤ 0 ↔ zw a ≤ 0 := by
  have h := zw_le a 0
  rw [show zw 0 = 0 by rfl] at h
  exact h
theorem zw_ge0 (a : Int) : 0 ≤ Int32.ofInt a ↔ 0 ≤ zw a := by
  have h := zw_le 0 a
  rw [show zw 0 = 0 by rfl] at h
  exact h
theorem zw_i2l (a : Int) : (Int32.ofInt a).toInt64 = Int64.ofInt (zw a) := by
  rw [← zw_of, Int32.toInt64_ofInt (by rw [zw_min]; exact zw_lo a) (by rw [zw_max]; exact zw_hi a)]
theorem zw_l2i (a : Int) : (Int64.ofInt a).toInt32 = Int32.ofInt a := Int64.toInt32_ofInt
theorem zwl_cmp (a b : Int) : lg_cmp (Int64.ofInt a) (Int64.ofInt b) = Int32.ofInt (if zwl a < zwl b then -1 else if zwl a = zwl b then 0 else 1) := by
  unfold lg_cmp
  by_cases h1 : zwl b < zwl a
  · rw [if_pos (show Int64.ofInt b < Int64.ofInt a from (zwl_lt b a).mpr h1), if_neg (by omega), if_neg (by omega)]
    rfl
  · rw [if_neg (show ¬ Int64.ofInt b < Int64.ofInt a from fun h => h1 ((zwl_lt b a).mp h))]
    by_cases h2 : zwl a = zwl b
    · rw [if_pos ((zwl_eq a b).mpr h2), if_neg (by omega), if_pos h2]
      rfl
    · rw [if_neg (fun h => h2 ((zwl_eq a b).mp h)), if_pos (by omega)]
      rfl
theorem zw_clamp (a : Int) : (Int32.ofInt a).toNatClampNeg = (zw a).toNat := by
  show (Int32.ofInt a).toInt.toNat = _
  rw [zw_toInt]
theorem zw_in {a : Int} {n : Nat} (h0 : 0 ≤ zw a) (h : (zw a).toNat < n) : vp_in (Int32.ofInt a) n := by
  unfold vp_in
  rw [zw_lt0, zw_clamp]
  omega
theorem zw_bip {n : Int} (h1 : -128 ≤ n) (h2 : n ≤ 127) : (Int8.ofInt n).toInt32 = Int32.ofInt n := Int8.toInt32_ofInt (by rw [show Int8.minValue.toInt = -128 by decide]; exact h1) (by rw [show Int8.maxValue.toInt = 127 by decide]; exact h2)
theorem zw_sip {n : Int} (h1 : -32768 ≤ n) (h2 : n ≤ 32767) : (Int16.ofInt n).toInt32 = Int32.ofInt n := Int16.toInt32_ofInt (by rw [show Int16.minValue.toInt = -32768 by decide]; exact h1) (by rw [show Int16.maxValue.toInt = 32767 by decide]; exact h2)
end
section
/-! ===== how a state of the reading lies in the machine ===== -/
/-- places to addresses -/
def zcR (ads : List Nat) : zV → Value → Prop
  | .inl x, V => V = .int (Int32.ofInt x)
  | .inr (.inl x), V => V = .long (Int64.ofInt x)
  | .inr (.inr none), V => V = .null
  | .inr (.inr (some p)), V => ∃ a, ads[p]? = some a ∧ V = .ref a
def zpre (ads ads' : List Nat) : Prop := ∀ (i a : Nat), ads[i]? = some a → ads'[i]? = some a
theorem zpre_rf (ads : List Nat) : zpre ads ads := fun _ _ h => h
theorem zpre_tr {a b c : List Nat} (h1 : zpre a b) (h2 : zpre b c) : zpre a c := fun i x h => h2 i x (h1 i x h)
theorem zpre_app (a b : List Nat) : zpre a (a ++ b) := fun i x h => by
  rw [List.getElem?_append_left (List.getElem?_eq_some_iff.mp h).1]; exact h
theorem zcR_pre {ads ads' : List Nat} (hp : zpre ads ads') : ∀ {v : zV} {V : Value}, zcR ads v V → zcR ads' v V
  | .inl _, _, h => h
  | .inr (.inl _), _, h => h
  | .inr (.inr none), _, h => h
  | .inr (.inr (some _)), _, ⟨a, h1, h2⟩ => ⟨a, hp _ _ h1, h2⟩
theorem zcR_cat {ads : List Nat} : ∀ {v : zV} {V : Value}, zcR ads v V → V.category = zcat v
  | .inl _, _, h => by cases h; rfl
  | .inr (.inl _), _, h => by cases h; rfl
  | .inr (.inr none), _, h => by cases h; rfl
  | .inr (.inr (some _)), _, ⟨_, _, h⟩ => by cases h; rfl
def zSt (ads : List Nat) : List zV → List Value → Prop
  | [], [] => True
  | v :: t, V :: T => zcR ads v V ∧ zSt ads t T
  | _, _ => False
theorem zSt_pre {ads ads' : List Nat} (hp : zpre ads ads') : ∀ {t : List zV} {T : List Value}, zSt ads t T → zSt ads' t T
  | [], [], _ => trivial
  | _ :: _, _ :: _, h => ⟨zcR_pre hp h.1, zSt_pre hp h.2⟩
  | [], _ :: _, h => h.elim
  | _ :: _, [], h => h.elim
theorem zSt_len {ads : List Nat} : ∀ {t : List zV} {T : List Value}, zSt ads t T → T.length = t.length
  | [], [], _ => rfl
  | _ :: _, _ :: _, h => by simp [zSt_len h.2]
  | [], _ :: _, h => h.elim
  | _ :: _, [], h => h.elim
theorem zSt_get {ads : List Nat} : ∀ {t : List zV} {T : List Value} {k : Nat} {v : zV}, zSt ads t T → t[k]? = some v → ∃ V, T[k]? = some V ∧ zcR ads v V
  | [], [], k, v, _, h => by simp at h
  | w :: t, W :: T, 0, v, h, q => by
    simp at q
    subst q
    exact ⟨W, by simp, h.1⟩
  | w :: t, W :: T, k + 1, v, h, q => by
    simp at q
    obtain ⟨V, h1, h2⟩ := zSt_get h.2 q
    exact ⟨V, by simpa using h1, h2⟩
  | [], _ :: _, _, _, h, _ => h.elim
  | _ :: _, [], _, _, h, _ => h.elim
theorem zSt_set {ads : List Nat} : ∀ {t : List zV} {T : List Value} (k : Nat) {v : zV} {V : Value}, zSt ads t T → zcR ads v V → zSt ads (t.set k v) (T.set k V)
  | [], [], _, _, _, _, _ => trivial
  | _ :: _, _ :: _, 0, _, _, h, q => ⟨q, h.2⟩
  | _ :: _, _ :: _, k + 1, _, _, h, q => ⟨h.1, zSt_set k h.2 q⟩
  | [], _ :: _, _, _, _, h, _ => h.elim
  | _ :: _, [], _, _, _, h, _ => h.elim
theorem zSt_take {ads : List Nat} : ∀ (n : Nat) {t : List zV} {T : List Value}, zSt ads t T → zSt ads (t.take n) (T.take n) ∧ zSt ads (t.drop n) (T.drop n)
  | 0, t, T, h => ⟨trivial, h⟩
  | n + 1, [], [], _ => ⟨trivial, trivial⟩
  | n + 1, _ :: _, _ :: _, h => ⟨⟨h.1, (zSt_take n h.2).1⟩, (zSt_take n h.2).2⟩
  | n + 1, [], _ :: _, h => h.elim
  | n + 1, _ :: _, [], h => h.elim
theorem zSt_app {ads : List Nat} : ∀ {t : List zV} {T : List Value} {t2 : List zV} {T2 : List Value}, zSt ads t T → zSt ads t2 T2 → zSt ads (t ++ t2) (T ++ T2)
  | [], [], _, _, _, h2 => h2
  | _ :: _, _ :: _, _, _, h, h2 => ⟨h.1, zSt_app h.2 h2⟩
  | [], _ :: _, _, _, h, _ => h.elim
  | _ :: _, [], _, _, h, _ => h.elim
theorem zSt_rev {ads : List Nat} : ∀ {t : List zV} {T : List Value}, zSt ads t T → zSt ads t.reverse T.reverse
  | [], [], _ => trivial
  | _ :: _, _ :: _, h => by
    rw [List.reverse_cons, List.reverse_cons]
    exact zSt_app (zSt_rev h.2) ⟨h.1, trivial⟩
  | [], _ :: _, h => h.elim
  | _ :: _, [], h => h.elim
theorem zSt_cat {ads : List Nat} : ∀ {t : List zV} {T : List Value}, zSt ads t T → (T.map fun v => v.category).sum = zcs t
  | [], [], _ => rfl
  | v :: t, V :: T, h => by
    have h1 := zSt_cat h.2
    have h2 := zcR_cat h.1
    simp only [List.map_cons, List.sum_cons, zcs]
    omega
  | [], _ :: _, h => h.elim
  | _ :: _, [], h => h.elim
/-- the locals -/
def zLo (ads : List Nat) (nL : Nat) (L : zL) (ls : Array Slot) : Prop := ls.size = nL ∧ lv_wf ls ∧ ∀ (i : Nat) (v : zV), L[i]? = some (some v) → ∃ V, ls[i]? = some (.val V) ∧ zcR ads v V
theorem zLo_pre {ads ads' : List Nat} (hp : zpre ads ads') {nL : Nat} {L : zL} {ls : Array Slot} (h : zLo ads nL L ls) : zLo ads' nL L ls := ⟨h.1, h.2.1, fun i v q => by
  obtain ⟨V, h1, h2⟩ := h.2.2 i v q
  exact ⟨V, h1, zcR_pre hp h2⟩⟩
theorem zLo_ld {ads : List Nat} {nL : Nat} {L : zL} {ls : Array Slot} (h : zLo ads nL L ls) {i : Nat} {v : zV} (q : zld L i = some v) : ∃ V, ls[i]? = some (.val V) ∧ zcR ads v V := by
  unfold zld at q
  split at q
  next w hw => cases q; exact h.2.2 i v hw
  next => cases q
theorem zkeep_get : ∀ (m : List Nat) (L : zL) (i : Nat) (v : zV), (zkeep m L)[i]? = some (some v) → L[i]? = some (some v)
  | [], L, i, v, h => by simp [zkeep] at h
  | a :: m, [], i, v, h => by simp [zkeep] at h
  | 0 :: m, w :: t, 0, v, h => by simp [zkeep] at h
  | 0 :: m, w :: t, i + 1, v, h => by simp [zkeep] at h ⊢; exact zkeep_get m t i v h
  | (_ + 1) :: m, w :: t, 0, v, h => by simpa [zkeep] using h
  | (_ + 1) :: m, w :: t, i + 1, v, h => by simp [zkeep] at h ⊢; exact zkeep_get m t i v h
theorem zLo_keep {ads : List Nat} {nL : Nat} {L : zL} {ls : Array Slot} (h : zLo ads nL L ls) (m : List Nat) : zLo ads nL (zkeep m L) ls := ⟨h.1, h.2.1, fun i v q => h.2.2 i v (zkeep_get m L i v q)⟩
/-- what stands in L after a store, stood there before or is the stored one -/
theorem zset1_get : ∀ (L : zL) (i : Nat) (w : Option zV) (j : Nat) (v : zV), (zset1 L i w)[j]? = some (some v) → (j = i ∧ w = some v) ∨ (j ≠ i ∧ L[j]? = some (some v) ∧ ¬ (j + 1 = i ∧ zcat v = 2))
  | [], 0, w, 0, v, h => by simp [zset1] at h; exact Or.inl ⟨rfl, h⟩
  | [], 0, w, j + 1, v, h => by simp [zset1] at h
  | [], i + 1, w, 0, v, h => by simp [zset1] at h
  | [], i + 1, w, j + 1, v, h => by
    simp [zset1] at h
    rcases zset1_get [] i w j v h with ⟨h1, h2⟩ | ⟨h1, h2, h3⟩
    · exact Or.inl ⟨by omega, h2⟩
    · simp at h2
  | a :: t, 0, w, 0, v, h => by simp [zset1] at h; exact Or.inl ⟨rfl, h⟩
  | a :: t, 0, w, j + 1, v, h => by simp [zset1] at h; exact Or.inr ⟨by omega, by simpa using h, by omega⟩
  | a :: t, i + 1, w, 0, v, h => by
    have key : ∀ b : Option zV, b = some v → b = a → (0 = i + 1 ∧ w = some v) ∨ (0 ≠ i + 1 ∧ (a :: t)[0]? = some (some v) ∧ ¬ (0 + 1 = i + 1 ∧ zcat v = 2)) ∨ (i = 0 ∧ zcat v = 2) := by
      intro b h1 h2
      subst h2
      by_cases hi : i = 0 ∧ zcat v = 2
      · exact Or.inr (Or.inr hi)
      · refine Or.inr (Or.inl ⟨by omega, by simp [h1], ?_⟩)
        intro q; exact hi ⟨by omega, q.2⟩
    rcases a with _ | a | a | a
    · simp [zset1] at h
    · simp [zset1] at h
      rcases key _ (by simp [h]) rfl with q | q | ⟨q1, q2⟩
      · exact Or.inl q
      · exact Or.inr q
      · subst h; simp [zcat] at q2
    · rcases i with _ | i
      · simp [zset1] at h
      · simp [zset1] at h
        rcases key _ (by simp [h]) rfl with q | q | ⟨q1, q2⟩
        · exact Or.inl q
        · exact Or.inr q
        · omega
    · simp [zset1] at h
      rcases key _ (by simp [h]) rfl with q | q | ⟨q1, q2⟩
      · exact Or.inl q
      · exact Or.inr q
      · subst h; simp [zcat] at q2
  | a :: t, i + 1, w, j + 1, v, h => by
    have h' : (zset1 t i w)[j]? = some (some v) := by
      rcases a with _ | a | a | a
      · simpa [zset1] using h
      · simpa [zset1] using h
      · rcases i with _ | i <;> simpa [zset1] using h
      · simpa [zset1] using h
    rcases zset1_get t i w j v h' with ⟨h1, h2⟩ | ⟨h1, h2, h3⟩
    · exact Or.inl ⟨by omega, h2⟩
    · exact Or.inr ⟨by omega, by simpa using h2, by omega⟩
theorem zset2_get : ∀ (L : zL) (i : Nat) (w : Option zV) (j : Nat) (v : zV), (zset2 L i w)[j]? = some (some v) → (j = i ∧ w = some v) ∨ (j ≠ i ∧ j ≠ i + 1 ∧ L[j]? = some (some v) ∧ ¬ (j + 1 = i ∧ zcat v = 2))
  | [], 0, w, 0, v, h => by simp [zset2] at h; exact Or.inl ⟨rfl, h⟩
  | [], 0, w, 1, v, h => by simp [zset2] at h
  | [], 0, w, j + 2, v, h => by simp [zset2] at h
  | [], i + 1, w, 0, v, h => by simp [zset2] at h
  | [], i + 1, w, j + 1, v, h => by
    simp [zset2] at h
    rcases zset2_get [] i w j v h with ⟨h1, h2⟩ | ⟨h1, h2, h3, h4⟩
    · exact Or.inl ⟨by omega, h2⟩
    · simp at h3
  | [a], 0, w, 0, v, h => by simp [zset2] at h; exact Or.inl ⟨rfl, h⟩
  | [a], 0, w, 1, v, h => by simp [zset2] at h
  | [a], 0, w, j + 2, v, h => by simp [zset2] at h
  | a :: b :: t, 0, w, 0, v, h => by simp [zset2] at h; exact Or.inl ⟨rfl, h⟩
  | a :: b :: t, 0, w, 1, v, h => by simp [zset2] at h
  | a :: b :: t, 0, w, j + 2, v, h => by simp [zset2] at h; exact Or.inr ⟨by omega, by omega, by simpa using h, by omega⟩
  | a :: t, i + 1, w, 0, v, h => by
    have key : ∀ b : Option zV, b = some v → b = a → (0 = i + 1 ∧ w = some v) ∨ (0 ≠ i + 1 ∧ 0 ≠ i + 1 + 1 ∧ (a :: t)[0]? = some (some v) ∧ ¬ (0 + 1 = i + 1 ∧ zcat v = 2)) ∨ (i = 0 ∧ zcat v = 2) := by
      intro b h1 h2
      subst h2
      by_cases hi : i = 0 ∧ zcat v = 2
      · exact Or.inr (Or.inr hi)
      · refine Or.inr (Or.inl ⟨by omega, by omega, by simp [h1], ?_⟩)
        intro q; exact hi ⟨by omega, q.2⟩
    have fin : zcat v ≠ 2 ∨ i ≠ 0 → a = some v → (0 = i + 1 ∧ w = some v) ∨ (0 ≠ i + 1 ∧ 0 ≠ i + 1 + 1 ∧ (a :: t)[0]? = some (some v) ∧ ¬ (0 + 1 = i + 1 ∧ zcat v = 2)) := by
      intro hn ha
      rcases key _ ha rfl with q | q | ⟨q1, q2⟩
      · exact Or.inl q
      · exact Or.inr q
      · omega
    rcases a with _ | a | a | a
    · rcases t with _ | ⟨b, t⟩ <;> simp [zset2] at h
    · have ha : some (Sum.inl a) = some v := by rcases t with _ | ⟨b, t⟩ <;> simpa [zset2] using h
      exact fin (Or.inl (by cases ha; simp [zcat])) ha
    · rcases i with _ | i
      · rcases t with _ | ⟨b, t⟩ <;> simp [zset2] at h
      · have ha : some (Sum.inr (Sum.inl a)) = some v := by rcases t with _ | ⟨b, t⟩ <;> simpa [zset2] using h
        exact fin (Or.inr (by omega)) ha
    · have ha : some (Sum.inr (Sum.inr a)) = some v := by rcases t with _ | ⟨b, t⟩ <;> simpa [zset2] using h
      exact fin (Or.inl (by cases ha; simp [zcat])) ha
  | a :: t, i + 1, w, j + 1, v, h => by
    have h' : (zset2 t i w)[j]? = some (some v) := by
      rcases a with _ | a | a | a
      · rcases t with _ | ⟨b, t⟩ <;> simpa [zset2] using h
      · rcases t with _ | ⟨b, t⟩ <;> simpa [zset2] using h
      · rcases i with _ | i <;> rcases t with _ | ⟨b, t⟩ <;> simpa [zset2] using h
      · rcases t with _ | ⟨b, t⟩ <;> simpa [zset2] using h
    rcases zset2_get t i w j v h' with ⟨h1, h2⟩ | ⟨h1, h2, h3, h4⟩
    · exact Or.inl ⟨by omega, h2⟩
    · exact Or.inr ⟨by omega, by omega, by simpa using h3, by omega⟩
theorem zLo_lv {ads : List Nat} {nL : Nat} {L : zL} {ls : Array Slot} (h : zLo ads nL L ls) : ∃ lv : List (Nat × Value), lv_has ls nL lv ∧ ∀ (i : Nat) (v : zV), L[i]? = some (some v) → ∃ V, (i, V) ∈ lv ∧ zcR ads v V := by
  have key : ∀ (L : zL) (k : Nat), (∀ (i : Nat) (v : zV), L[i]? = some (some v) → ∃ V, ls[k + i]? = some (.val V) ∧ zcR ads v V) → ∃ lv : List (Nat × Value), (∀ q ∈ lv, ls[q.1]? = some (.val q.2)) ∧ ∀ (i : Nat) (v : zV), L[i]? = some (some v) → ∃ V, (k + i, V) ∈ lv ∧ zcR ads v V := by
    intro L
    induction L with
    | nil => exact fun k _ => ⟨[], fun q hq => by simp at hq, fun i v hv => by simp at hv⟩
    | cons a t ih =>
      intro k hk
      obtain ⟨lv, h1, h2⟩ := ih (k + 1) (fun i v hv => by
        obtain ⟨V, e1, e2⟩ := hk (i + 1) v (by simpa using hv)
        exact ⟨V, by rw [show k + 1 + i = k + (i + 1) by omega]; exact e1, e2⟩)
      cases a with
      | none =>
        refine ⟨lv, h1, fun i v hv => ?_⟩
        cases i with
        | zero => simp at hv
        | succ i =>
          obtain ⟨V, e1, e2⟩ := h2 i v (by simpa using hv)
          exact ⟨V, by rw [show k + (i + 1) = k + 1 + i by omega]; exact e1, e2⟩
      | some w =>
        obtain ⟨W, e1, e2⟩ := hk 0 w (by simp)
        refine ⟨(k, W) :: lv, fun q hq => ?_, fun i v hv => ?_⟩
        · rcases List.mem_cons.mp hq with rfl | hq
          · simpa using e1
          · exact h1 q hq
        · cases i with
          | zero =>
            simp at hv
            subst hv
            exact ⟨W, by simp, e2⟩
          | succ i =>
            obtain ⟨V, e3, e4⟩ := h2 i v (by simpa using hv)
            exact ⟨V, by rw [show k + (i + 1) = k + 1 + i by omega]; exact List.mem_cons_of_mem _ e3, e4⟩
  obtain ⟨lv, h1, h2⟩ := key L 0 (fun i v hv => by
    obtain ⟨V, e1, e2⟩ := h.2.2 i v hv
    exact ⟨V, by rw [Nat.zero_add]; exact e1, e2⟩)
  exact ⟨lv, ⟨h.1, h.2.1, h1⟩, fun i v hv => by
    obtain ⟨V, e1, e2⟩ := h2 i v hv
    exact ⟨V, by rw [Nat.zero_add] at e1; exact e1, e2⟩⟩
theorem zLo_s1 {ads : List Nat} {nL i : Nat} {L : zL} {ls' : Array Slot} {lv : List (Nat × Value)} {v0 : zV} {V0 : Value} (hc : ∀ (i : Nat) (v : zV), L[i]? = some (some v) → ∃ V, (i, V) ∈ lv ∧ zcR ads v V) (h0 : zcR ads v0 V0)
    (h : lv_has ls' nL ((i, V0) :: lv.filter (fun q => !(q.1 == i) && !(q.1 + 1 == i && q.2.category == 2)))) : zLo ads nL (zset1 L i (some v0)) ls' := by
  refine ⟨h.1, h.2.1, fun j v hv => ?_⟩
  rcases zset1_get L i _ j v hv with ⟨rfl, e⟩ | ⟨h1, h2, h3⟩
  · cases e
    exact ⟨V0, h.2.2 (j, V0) List.mem_cons_self, h0⟩
  · obtain ⟨V, e1, e2⟩ := hc j v h2
    refine ⟨V, h.2.2 (j, V) (List.mem_cons_of_mem _ (List.mem_filter.mpr ⟨e1, ?_⟩)), e2⟩
    have hcat := zcR_cat e2
    simp only [Bool.and_eq_true, Bool.not_eq_true', beq_eq_false_iff_ne, ne_eq, Bool.and_eq_false_iff]
    refine ⟨h1, ?_⟩
    by_cases q : j + 1 = i
    · right; intro z; exact h3 ⟨q, by rw [← hcat]; exact z⟩
    · left; exact q
theorem zLo_s2 {ads : List Nat} {nL i : Nat} {L : zL} {ls' : Array Slot} {lv : List (Nat × Value)} {v0 : zV} {V0 : Value} (hc : ∀ (i : Nat) (v : zV), L[i]? = some (some v) → ∃ V, (i, V) ∈ lv ∧ zcR ads v V) (h0 : zcR ads v0 V0)
    (h : lv_has ls' nL ((i, V0) :: lv.filter (fun q => !(q.1 == i) && (!(q.1 == i + 1) && !(q.1 + 1 == i && q.2.category == 2))))) : zLo ads nL (zset2 L i (some v0)) ls' := by
  refine ⟨h.1, h.2.1, fun j v hv => ?_⟩
  rcases zset2_get L i _ j v hv with ⟨rfl, e⟩ | ⟨h1, h2, h3, h4⟩
  · cases e
    exact ⟨V0, h.2.2 (j, V0) List.mem_cons_self, h0⟩
  · obtain ⟨V, e1, e2⟩ := hc j v h3
    refine ⟨V, h.2.2 (j, V) (List.mem_cons_of_mem _ (List.mem_filter.mpr ⟨e1, ?_⟩)), e2⟩
    have hcat := zcR_cat e2
    simp only [Bool.and_eq_true, Bool.not_eq_true', beq_eq_false_iff_ne, ne_eq, Bool.and_eq_false_iff]
    refine ⟨h1, h2, ?_⟩
    by_cases q : j + 1 = i
    · right; intro z; exact h4 ⟨q, by rw [← hcat]; exact z⟩
    · left; exact q
/-- stacks by their top -/
theorem zSt_i {ads : List Nat} {x : Int} {t : List zV} {T : List Value} (h : zSt ads (.inl x :: t) T) : ∃ T', T = .int (Int32.ofInt x) :: T' ∧ zSt ads t T' := by
  rcases T with _ | ⟨V, T⟩
  · exact h.elim
  · obtain ⟨h1, h2⟩ := h
    cases h1
    exact ⟨T, rfl, h2⟩
theorem zSt_l {ads : List Nat} {x : Int} {t : List zV} {T : List Value} (h : zSt ads (.inr (.inl x) :: t) T) : ∃ T', T = .long (Int64.ofInt x) :: T' ∧ zSt ads t T' := by
  rcases T with _ | ⟨V, T⟩
  · exact h.elim
  · obtain ⟨h1, h2⟩ := h
    cases h1
    exact ⟨T, rfl, h2⟩
theorem zSt_r {ads : List Nat} {x : Option Nat} {t : List zV} {T : List Value} (h : zSt ads (.inr (.inr x) :: t) T) : ∃ V T', T = V :: T' ∧ zcR ads (.inr (.inr x)) V ∧ zSt ads t T' := by
  rcases T with _ | ⟨V, T⟩
  · exact h.elim
  · exact ⟨V, T, rfl, h.1, h.2⟩
/-- cells -/
def zCe (cl : List vw_C) (ads : List Nat) (tys : List (ClassId × FieldType)) (c : Nat × List zV) (e : va_E) : Prop :=
  (c.1 < 100 ∧ ∃ fs, e = .inr (c.1, fs) ∧ zSt ads c.2 fs) ∨
  (c.1 = 100 ∧ ∃ (cA : ClassId) (f : Nat → Int32), e = .inl (cA, c.2.length, .inl f) ∧ (cA, FieldType.int) ∈ tys ∧ ∀ (j : Nat) (v : zV), c.2[j]? = some v → ∃ x, v = .inl x ∧ f j = Int32.ofInt x) ∨
  (c.1 = 101 ∧ ∃ (cA : ClassId) (f : Nat → Int64), e = .inl (cA, c.2.length, .inr (.inl f)) ∧ (cA, FieldType.long) ∈ tys ∧ ∀ (j : Nat) (v : zV), c.2[j]? = some v → ∃ x, v = .inr (.inl x) ∧ f j = Int64.ofInt x) ∨
  (102 ≤ c.1 ∧ ∃ (cA : ClassId) (f : Nat → Option Nat) (r : vw_C), e = .inl (cA, c.2.length, .inr (.inr (.inr (.inr f)))) ∧ cl[c.1 - 102]? = some r ∧ (cA, FieldType.object r.1) ∈ tys ∧ ∀ (j : Nat) (v : zV), c.2[j]? = some v → ∃ x, v = .inr (.inr x) ∧ zcR ads (.inr (.inr x)) (va_rf (f j)))
theorem zCe_mono {cl : List vw_C} {ads ads' : List Nat} {tys tys' : List (ClassId × FieldType)} (hp : zpre ads ads') (ht : ∀ q ∈ tys, q ∈ tys') {c : Nat × List zV} {e : va_E} (h : zCe cl ads tys c e) : zCe cl ads' tys' c e := by
  rcases h with ⟨h1, fs, h2, h3⟩ | ⟨h1, cA, f, h2, h3, h4⟩ | ⟨h1, cA, f, h2, h3, h4⟩ | ⟨h1, cA, f, r, h2, h3, h4, h5⟩
  · exact Or.inl ⟨h1, fs, h2, zSt_pre hp h3⟩
  · exact Or.inr (Or.inl ⟨h1, cA, f, h2, ht _ h3, h4⟩)
  · exact Or.inr (Or.inr (Or.inl ⟨h1, cA, f, h2, ht _ h3, h4⟩))
  · refine Or.inr (Or.inr (Or.inr ⟨h1, cA, f, r, h2, h3, ht _ h4, fun j v hv => ?_⟩))
    obtain ⟨x, e1, e2⟩ := h5 j v hv
    exact ⟨x, e1, zcR_pre hp e2⟩
def zRep (cl : List vw_C) (ads : List Nat) (tys : List (ClassId × FieldType)) (ws : va_W) (h : zH) : Prop :=
  ws.length = h.length ∧ ads.length = h.length + 1 ∧ ∀ (k : Nat) (c : Nat × List zV), h[k]? = some c → ∃ a e, ads[k + 1]? = some a ∧ ws[k]? = some (a, e) ∧ zCe cl ads tys c e
theorem zRep_set {cl : List vw_C} {ads : List Nat} {tys : List (ClassId × FieldType)} {ws : va_W} {h : zH} (hR : zRep cl ads tys ws h) {p a : Nat} {c' : Nat × List zV} {e' : va_E} (ha : ads[p + 1]? = some a) (hc : zCe cl ads tys c' e') : zRep cl ads tys (ws.set p (a, e')) (h.set p c') := by
  obtain ⟨h1, h2, h3⟩ := hR
  refine ⟨by simp [h1], by simp [h2], fun k c hk => ?_⟩
  by_cases hkp : p = k
  · subst hkp
    have hl : p < h.length := by
      have := (List.getElem?_eq_some_iff.mp hk).1
      simpa using this
    rw [List.getElem?_set_self hl] at hk
    cases hk
    exact ⟨a, e', ha, by rw [List.getElem?_set_self (by omega)], hc⟩
  · rw [List.getElem?_set_ne hkp] at hk
    obtain ⟨a1, e1, q1, q2, q3⟩ := h3 k c hk
    exact ⟨a1, e1, q1, by rw [List.getElem?_set_ne hkp]; exact q2, q3⟩
theorem zRep_app {cl : List vw_C} {ads : List Nat} {tys tys' : List (ClassId × FieldType)} {ws : va_W} {h : zH} (hR : zRep cl ads tys ws h) (ht : ∀ q ∈ tys, q ∈ tys') {a : Nat} {c' : Nat × List zV} {e' : va_E} (hc : zCe cl ads tys' c' e') : zRep cl (ads ++ [a]) tys' (ws ++ [(a, e')]) (h ++ [c']) := by
  obtain ⟨h1, h2, h3⟩ := hR
  refine ⟨by simp [h1], by simp [h2], fun k c hk => ?_⟩
  by_cases hl : k < h.length
  · rw [List.getElem?_append_left hl] at hk
    obtain ⟨a1, e1, q1, q2, q3⟩ := h3 k c hk
    exact ⟨a1, e1, zpre_app _ _ _ _ q1, by rw [List.getElem?_append_left (by omega)]; exact q2, zCe_mono (zpre_app _ _) ht q3⟩
  · rw [List.getElem?_append_right (by omega)] at hk
    have hz : k - h.length < 1 := (List.getElem?_eq_some_iff.mp hk).1
    have hk0 : k = h.length := by omega
    subst hk0
    simp at hk
    subst hk
    refine ⟨a, e', ?_, ?_, zCe_mono (zpre_app _ _) (fun _ q => q) hc⟩
    · rw [List.getElem?_append_right (by omega), h2]; simp
    · rw [List.getElem?_append_right (by omega), h1]; simp
theorem zty_mem {tys : List (ClassId × FieldType)} {q : ClassId × FieldType} (h : q ∈ tys) : ∃ t0 : Nat, tys[t0]? = some q := List.getElem?_of_mem h
end
section
/-! ===== one step of the reading is a step of the machine ===== -/
def zlen : Instr → Nat
  | .bipush _ => 2
  | .sipush _ => 3
  | .ldc _ => 2
  | .ldc_w _ => 3
  | .ldc2_w _ => 3
  | .iload _ => 2
  | .lload _ => 2
  | .aload _ => 2
  | .istore _ => 2
  | .lstore _ => 2
  | .astore _ => 2
  | .iinc _ _ => 3
  | .getfield _ => 3
  | .putfield _ => 3
  | .new _ => 3
  | .anewarray _ => 3
  | .newarray _ => 2
  | .goto _ => 3
  | .ifCond _ _ => 3
  | .if_icmp _ _ => 3
  | .ifnull _ => 3
  | .ifnonnull _ => 3
  | .invokevirtual _ => 3
  | .invokestatic _ => 3
  | .invokespecial _ => 3
  | _ => 1
def zxf (xs : List Int) : Nat → Int32 := fun j => Int32.ofInt (xs.getD j 0)
/-- what the tables say of a field's use, of a class, of a constant -/
def zFl (cl : List vw_C) (Ts : List Cond) (own : String) (idx ci j : Nat) : Prop := ∃ (T : u_T) (N : Nat), cl[ci]? = some (own, T, N) ∧ j < N ∧ (T j).1 = own ∧ Cond.fieldLink own idx own (T j).2.1 (T j).2.2.1 ∈ Ts
def zKd (k : Nat) (ty : FieldType) : Prop := match k with
  | 0 => ty = .int
  | 1 => ty = .long
  | 2 => (∃ n, ty = .object n) ∨ ∃ t, ty = .array t
  | 3 => ty = .boolean
  | _ => False
def zPf (cl : List vw_C) (Ts : List Cond) (own : String) (ctor : Bool) (idx ci j k : Nat) : Prop := ∃ (T : u_T) (N : Nat), cl[ci]? = some (own, T, N) ∧ j < N ∧ (T j).1 = own ∧ Cond.fieldLink own idx own (T j).2.1 (T j).2.2.1 ∈ Ts ∧ (∃ ty, parseFieldDescriptor (T j).2.2.1 = some ty ∧ zKd k ty) ∧ ((T j).2.2.2 = false ∨ ctor = true)
def zCl (cl : List vw_C) (Ts : List Cond) : Prop := ∀ (ci : Nat) (C : String) (T : u_T) (N : Nat), cl[ci]? = some (C, T, N) → (∀ w ∈ u_ws C T N, w ∈ Ts) ∧ (∃ ty : Nat → FieldType, ∀ k, k < N → parseFieldDescriptor (T k).2.2.1 = some (ty k)) ∧ (∀ a, a < N → ∀ b, b < N → a ≠ b → (T a).2.1 ≠ (T b).2.1) ∧ Cond.instantiable C N ∈ Ts ∧ Cond.initialized C ∈ Ts ∧ ci < 100
def zNw (cl : List vw_C) (Ts : List Cond) (own : String) (idx ci : Nat) (ks : List Nat) : Prop := ∃ (C : String) (T : u_T) (N : Nat), cl[ci]? = some (C, T, N) ∧ ks.length = N ∧ Cond.classLink own idx C ∈ Ts ∧ ∀ (j k : Nat), ks[j]? = some k → ∃ ty, parseFieldDescriptor (T j).2.2.1 = some ty ∧ ((k = 0 ∧ (ty = .int ∨ ty = .boolean)) ∨ (k = 1 ∧ ty = .long) ∨ (k = 2 ∧ ((∃ n, ty = .object n) ∨ ∃ t, ty = .array t)))
def zOK (cl : List vw_C) (Ts : List Cond) (own : String) (ctor : Bool) (nL : Nat) (cc : ByteArray) (pc : Nat) (I : Instr) (x : List Nat) (c : Int) : Prop := decode cc pc = .ok (I, zlen I) ∧ match I with
  | .bipush n => -128 ≤ n ∧ n ≤ 127
  | .sipush n => -32768 ≤ n ∧ n ≤ 32767
  | .ldc i => Cond.constant own i (Int32.ofInt c) ∈ Ts
  | .ldc_w i => Cond.constant own i (Int32.ofInt c) ∈ Ts
  | .ldc2_w i => Cond.constantLong own i (Int64.ofInt c) ∈ Ts
  | .istore i => i < nL
  | .istore_n i => (i : Nat) < nL
  | .astore i => i < nL
  | .astore_n i => (i : Nat) < nL
  | .lstore i => i + 1 < nL
  | .lstore_n i => (i : Nat) + 1 < nL
  | .getfield i => ∃ ci j k, x = [ci, j, k] ∧ zFl cl Ts own i ci j
  | .putfield i => ∃ ci j k, x = [ci, j, k] ∧ zPf cl Ts own ctor i ci j k
  | .new i => ∃ ci ks, x = ci :: ks ∧ zNw cl Ts own i ci ks
  | .newarray t => (x = [0] ∧ t = .int ∧ Cond.arrayClass .int ∈ Ts) ∨ (x = [1] ∧ t = .long ∧ Cond.arrayClass .long ∈ Ts)
  | .anewarray i => ∃ ci C T N, x = [102 + ci] ∧ cl[ci]? = some (C, T, N) ∧ Cond.classLink own i C ∈ Ts ∧ Cond.arrayOver (.object C) ∈ Ts
  | .aaload => ∃ ci, x = [102 + ci]
  | .aastore => ∃ ci, x = [102 + ci, ci]
  | _ => True
theorem zfit_r {ads : List Nat} {r : Option Nat} {V : Value} {ty : FieldType} (h : zcR ads (.inr (.inr r)) V) (ht : (∃ n, ty = .object n) ∨ ∃ t, ty = .array t) : narrow ty V = V ∧ fits ty V = true := by
  rcases r with _ | p
  · cases h
    rcases ht with ⟨n, rfl⟩ | ⟨t, rfl⟩ <;> exact ⟨rfl, rfl⟩
  · obtain ⟨a, -, rfl⟩ := h
    rcases ht with ⟨n, rfl⟩ | ⟨t, rfl⟩ <;> exact ⟨rfl, rfl⟩
theorem zfit_b {x : Int} (h : x = 0 ∨ x = 1) : narrow .boolean (.int (Int32.ofInt x)) = .int (Int32.ofInt x) ∧ fits .boolean (.int (Int32.ofInt x)) = true := by
  rcases h with rfl | rfl <;> exact ⟨by decide, by decide⟩
/-- the place where a field is read -/
theorem zfd_some {h : zH} {r : Option Nat} {ci j : Nat} {v : zV} (q : zfd h r ci j = some v) : ∃ p c, r = some (p + 1) ∧ h[p]? = some c ∧ c.1 = ci ∧ c.2[j]? = some v := by
  rcases r with _ | _ | p
  · cases q
  · cases q
  · unfold zfd at q
    dsimp only at q
    cases hc : h[p]? with
    | none => rw [hc] at q; cases q
    | some c =>
      rw [hc] at q
      dsimp only at q
      split at q
      next he => exact ⟨p, c, rfl, hc, he, q⟩
      next => cases q
theorem zpf_some {h : zH} {r : Option Nat} {ci j : Nat} {v : zV} {f : zH → Option zR} {res : zR} (q : zpf h r ci j v f = some res) : ∃ p c, r = some (p + 1) ∧ h[p]? = some c ∧ c.1 = ci ∧ j < c.2.length ∧ f (h.set p (c.1, c.2.set j v)) = some res := by
  rcases r with _ | _ | p
  · cases q
  · cases q
  · unfold zpf at q
    dsimp only at q
    cases hc : h[p]? with
    | none => rw [hc] at q; cases q
    | some c =>
      rw [hc] at q
      dsimp only at q
      split at q
      next he => exact ⟨p, c, rfl, hc, he.1, he.2, q⟩
      next => cases q
theorem zst_some {h : zH} {r : Option Nat} {tag : Nat} {i : Int} {v : zV} {f : zH → Option zR} {res : zR} (q : zst h r tag i v f = some res) : ∃ p c, r = some (p + 1) ∧ h[p]? = some c ∧ c.1 = tag ∧ 0 ≤ zw i ∧ (zw i).toNat < c.2.length ∧ f (h.set p (c.1, c.2.set (zw i).toNat v)) = some res := by
  rcases r with _ | _ | p
  · cases q
  · cases q
  · unfold zst at q
    dsimp only at q
    cases hc : h[p]? with
    | none => rw [hc] at q; cases q
    | some c =>
      rw [hc] at q
      dsimp only at q
      split at q
      next he => exact ⟨p, c, rfl, hc, he.1, he.2.1, he.2.2, q⟩
      next => cases q
theorem zar_some {xs : List Int} {h : zH} {r : Option Nat} {tag : Nat} {i : Int} {v : zV} (q : zar xs h r tag i = some v) : 0 ≤ zw i ∧ ((r = some 0 ∧ tag = 100 ∧ ∃ x, xs[(zw i).toNat]? = some x ∧ v = .inl x) ∨ ∃ p c, r = some (p + 1) ∧ h[p]? = some c ∧ c.1 = tag ∧ c.2[(zw i).toNat]? = some v) := by
  rcases r with _ | _ | p
  · cases q
  · unfold zar at q
    dsimp only at q
    split at q
    next he =>
      refine ⟨he.2, Or.inl ⟨rfl, he.1, ?_⟩⟩
      cases hx : xs[(zw i).toNat]? with
      | none => rw [hx] at q; cases q
      | some x => rw [hx] at q; cases q; exact ⟨x, rfl, rfl⟩
    next => cases q
  · unfold zar at q
    dsimp only at q
    cases hc : h[p]? with
    | none => rw [hc] at q; cases q
    | some c =>
      rw [hc] at q
      dsimp only at q
      split at q
      next he => exact ⟨he.2, Or.inr ⟨p, c, rfl, hc, he.1, q⟩⟩
      next => cases q
theorem zRep_obj {cl : List vw_C} {ads : List Nat} {tys : List (ClassId × FieldType)} {ws : va_W} {h : zH} (hR : zRep cl ads tys ws h) {p a : Nat} {c : Nat × List zV} (hp : h[p]? = some c) (ht : c.1 < 100) (ha : ads[p + 1]? = some a) : ∃ fs, ws[p]? = some (a, .inr (c.1, fs)) ∧ zSt ads c.2 fs := by
  obtain ⟨a1, e, q1, q2, q3⟩ := hR.2.2 p c hp
  cases ha.symm.trans q1
  rcases q3 with ⟨-, fs, rfl, h3⟩ | ⟨h1, -⟩ | ⟨h1, -⟩ | ⟨h1, -⟩
  · exact ⟨fs, q2, h3⟩
  · omega
  · omega
  · omega
theorem zRep_int {cl : List vw_C} {ads : List Nat} {tys : List (ClassId × FieldType)} {ws : va_W} {h : zH} (hR : zRep cl ads tys ws h) {p a : Nat} {c : Nat × List zV} (hp : h[p]? = some c) (ht : c.1 = 100) (ha : ads[p + 1]? = some a) : ∃ (cA : ClassId) (f : Nat → Int32), ws[p]? = some (a, .inl (cA, c.2.length, .inl f)) ∧ (cA, FieldType.int) ∈ tys ∧ ∀ (j : Nat) (v : zV), c.2[j]? = some v → ∃ x, v = .inl x ∧ f j = Int32.ofInt x := by
  obtain ⟨a1, e, q1, q2, q3⟩ := hR.2.2 p c hp
  cases ha.symm.trans q1
  rcases q3 with ⟨h1, -⟩ | ⟨-, cA, f, rfl, h3, h4⟩ | ⟨h1, -⟩ | ⟨h1, -⟩
  · omega
  · exact ⟨cA, f, q2, h3, h4⟩
  · omega
  · omega
theorem zRep_long {cl : List vw_C} {ads : List Nat} {tys : List (ClassId × FieldType)} {ws : va_W} {h : zH} (hR : zRep cl ads tys ws h) {p a : Nat} {c : Nat × List zV} (hp : h[p]? = some c) (ht : c.1 = 101) (ha : ads[p + 1]? = some a) : ∃ (cA : ClassId) (f : Nat → Int64), ws[p]? = some (a, .inl (cA, c.2.length, .inr (.inl f))) ∧ (cA, FieldType.long) ∈ tys ∧ ∀ (j : Nat) (v : zV), c.2[j]? = some v → ∃ x, v = .inr (.inl x) ∧ f j = Int64.ofInt x := by
  obtain ⟨a1, e, q1, q2, q3⟩ := hR.2.2 p c hp
  cases ha.symm.trans q1
  rcases q3 with ⟨h1, -⟩ | ⟨h1, -⟩ | ⟨-, cA, f, rfl, h3, h4⟩ | ⟨h1, -⟩
  · omega
  · omega
  · exact ⟨cA, f, q2, h3, h4⟩
  · omega
theorem zRep_ref {cl : List vw_C} {ads : List Nat} {tys : List (ClassId × FieldType)} {ws : va_W} {h : zH} (hR : zRep cl ads tys ws h) {p a : Nat} {c : Nat × List zV} (hp : h[p]? = some c) (ht : 102 ≤ c.1) (ha : ads[p + 1]? = some a) : ∃ (cA : ClassId) (f : Nat → Option Nat) (r : vw_C), ws[p]? = some (a, .inl (cA, c.2.length, .inr (.inr (.inr (.inr f))))) ∧ cl[c.1 - 102]? = some r ∧ (cA, FieldType.object r.1) ∈ tys ∧ ∀ (j : Nat) (v : zV), c.2[j]? = some v → ∃ x, v = .inr (.inr x) ∧ zcR ads (.inr (.inr x)) (va_rf (f j)) := by
  obtain ⟨a1, e, q1, q2, q3⟩ := hR.2.2 p c hp
  cases ha.symm.trans q1
  rcases q3 with ⟨h1, -⟩ | ⟨h1, -⟩ | ⟨h1, -⟩ | ⟨-, cA, f, r, rfl, h3, h4, h5⟩
  · omega
  · omega
  · omega
  · exact ⟨cA, f, r, q2, h3, h4, h5⟩
theorem zRep_arr {cl : List vw_C} {ads : List Nat} {tys : List (ClassId × FieldType)} {ws : va_W} {h : zH} (hR : zRep cl ads tys ws h) {p a : Nat} {c : Nat × List zV} (hp : h[p]? = some c) (ht : 100 ≤ c.1) (ha : ads[p + 1]? = some a) : ∃ (cA : ClassId) (x : vp_A) (ty : FieldType), ws[p]? = some (a, .inl (cA, x)) ∧ (cA, ty) ∈ tys ∧ x.1 = c.2.length := by
  obtain ⟨a1, e, q1, q2, q3⟩ := hR.2.2 p c hp
  cases ha.symm.trans q1
  rcases q3 with ⟨h1, -⟩ | ⟨-, cA, f, rfl, h3, -⟩ | ⟨-, cA, f, rfl, h3, -⟩ | ⟨-, cA, f, r, rfl, -, h4, -⟩
  · omega
  · exact ⟨cA, _, _, q2, h3, rfl⟩
  · exact ⟨cA, _, _, q2, h3, rfl⟩
  · exact ⟨cA, _, _, q2, h4, rfl⟩
theorem zofNat (n : Nat) : Int32.ofNat n = Int32.ofInt (n : Int) := by
  apply Int32.toBitVec_inj.mp
  simp
def zdfv : Nat → Value
  | 0 => .int 0
  | 1 => .long 0
  | _ => .null
theorem zdfv_ok (ads : List Nat) : ∀ ks : List Nat, zSt ads (ks.map fun t => match t with | 0 => .inl 0 | 1 => .inr (.inl 0) | _ => .inr (.inr none)) (ks.map zdfv)
  | [] => trivial
  | 0 :: ks => ⟨rfl, zdfv_ok ads ks⟩
  | 1 :: ks => ⟨rfl, zdfv_ok ads ks⟩
  | (_ + 2) :: ks => ⟨rfl, zdfv_ok ads ks⟩
section ZSIM
variable {p : Program} {l : Launch} {e : Env} {R : Room} {s : State} {m : MethodId} {args : Array Value} {below : List Frame} {meth : Method} {c : Code} {Q : State → Prop}
variable {cc : ByteArray} {nL : Nat} {own : String} {D : va_G} {cl : List vw_C} {A : Nat → Prop} {xs : List Int} {ads0 : List Nat} {n0 z0 : Nat} {Ts : List Cond} {ctor : Bool}
/-- the method's own circumstances -/
def zCtx (p : Program) (s : State) (m : MethodId) (args : Array Value) (meth : Method) (c : Code) (cc : ByteArray) (nL : Nat) (own : String) (ctor : Bool) (cl : List vw_C) (A : Nat → Prop) (xs : List Int) (ads0 : List Nat) (Ts : List Cond) : Prop :=
  p.tables.exec = Jvm.exec ∧ c.code = cc ∧ c.maxLocals = nL ∧ (∀ w ∈ Ts, w.before args s = true) ∧ s.vm.findClass own = some m.cls ∧ (∀ q, s.heap.size ≤ q → A q) ∧ zCl cl Ts ∧ (ctor = true → meth.name = "<init>") ∧ ∃ b, ads0[0]? = some b ∧ va_X b xs.length (zxf xs) s s.heap ∧ b < s.heap.size ∧ ¬ A b
def zSim (p : Program) (l : Launch) (e : Env) (R : Room) (s : State) (m : MethodId) (args : Array Value) (below : List Frame) (meth : Method) (c : Code) (Q : State → Prop) (nL : Nat) (D : va_G) (cl : List vw_C) (A : Nat → Prop) (ads0 : List Nat) (n0 z0 : Nat) (pc : Nat) (L : zL) (st : List zV) (h : zH) : Prop :=
  ∀ (ls : Array Slot) (sv : List Value) (H : Heap) (locs : List Loc) (cells slots : Nat) (ads : List Nat) (tys : List (ClassId × FieldType)) (ws : va_W), zLo ads nL L ls → zSt ads st sv → zRep cl ads tys ws h → zpre ads0 ads → va_K D cl tys s → va_P D cl ws H → va_D A ws → va_S A s.heap H locs → cells + n0 = h.length → slots + z0 = zsz h → W p l e R s m args below meth c H locs cells slots Q (F0 m pc ls sv)
theorem zS_arith (C0 : zCtx p s m args meth c cc nL own ctor cl A xs ads0 Ts) {pc : Nat} {I : Instr} {x : List Nat} {cv : Int} {L : zL} {st : List zV} {h : zH} {k : zL → List zV → zH → Option zR} {res : zR} (ok : zOK cl Ts own ctor nL cc pc I x cv)
    (hk : ∀ L' st' h', k L' st' h' = some res → zSim p l e R s m args below meth c Q nL D cl A ads0 n0 z0 (pc + zlen I) L' st' h') (hr : ∀ L' st' h', k L' st' h' = some res → h'.length ≤ R.cells + n0 ∧ zsz h' ≤ R.slots + z0)
    (q : zS xs I x cv L st h k = some res) : zSim p l e R s m args below meth c Q nL D cl A ads0 n0 z0 pc L st h := by
  intro ls sv H locs cells slots ads tys ws hL hst hR hpre hK hP hD hS hn hz
  obtain ⟨hx, hb, hml, hts, hown, hA, hcl, hct, b, hb0, hX, hbl, hbA⟩ := C0
  obtain ⟨hd, ok⟩ := ok
  cases I
  case iconst n => exact lv_iconst hx hb hd rfl (hk _ _ _ q _ _ _ _ _ _ _ _ _ hL ⟨rfl, hst⟩ hR hpre hK hP hD hS hn hz)
  case bipush n => exact lv_bipush hx hb hd (zw_bip ok.1 ok.2) (hk _ _ _ q _ _ _ _ _ _ _ _ _ hL ⟨rfl, hst⟩ hR hpre hK hP hD hS hn hz)
  case sipush n => exact lv_sipush hx hb hd (zw_sip ok.1 ok.2) (hk _ _ _ q _ _ _ _ _ _ _ _ _ hL ⟨rfl, hst⟩ hR hpre hK hP hD hS hn hz)
  case ldc i => exact lv_ldc hx hb hown (hts _ ok) hd (hk _ _ _ q _ _ _ _ _ _ _ _ _ hL ⟨rfl, hst⟩ hR hpre hK hP hD hS hn hz)
  case ldc_w i => exact lv_ldcw hx hb hown (hts _ ok) hd (hk _ _ _ q _ _ _ _ _ _ _ _ _ hL ⟨rfl, hst⟩ hR hpre hK hP hD hS hn hz)
  case ldc2_w i => exact lv_ldc2 hx hb hown (hts _ ok) hd (hk _ _ _ q _ _ _ _ _ _ _ _ _ hL ⟨rfl, hst⟩ hR hpre hK hP hD hS hn hz)
  case lconst n => exact lv_lconst (v := Int64.ofInt ((n : Nat) : Int)) hx hb hd (by clear hk hr q hd ok; revert n; decide) (hk _ _ _ q _ _ _ _ _ _ _ _ _ hL ⟨rfl, hst⟩ hR hpre hK hP hD hS hn hz)
  case aconst_null => exact lv_null hx hb hd (hk _ _ _ q _ _ _ _ _ _ _ _ _ hL ⟨rfl, hst⟩ hR hpre hK hP hD hS hn hz)
  case iload i =>
    simp only [zS] at q
    split at q
    next v hv =>
      obtain ⟨V, e1, e2⟩ := zLo_ld hL hv
      cases e2
      exact lv_iload hx hb hd e1 (hk _ _ _ q _ _ _ _ _ _ _ _ _ hL ⟨rfl, hst⟩ hR hpre hK hP hD hS hn hz)
    next => cases q
  case iload_n i =>
    simp only [zS] at q
    split at q
    next v hv =>
      obtain ⟨V, e1, e2⟩ := zLo_ld hL hv
      cases e2
      exact lv_iload_n hx hb hd rfl e1 (hk _ _ _ q _ _ _ _ _ _ _ _ _ hL ⟨rfl, hst⟩ hR hpre hK hP hD hS hn hz)
    next => cases q
  case lload i =>
    simp only [zS] at q
    split at q
    next v hv =>
      obtain ⟨V, e1, e2⟩ := zLo_ld hL hv
      cases e2
      exact lv_lload hx hb hd e1 (hk _ _ _ q _ _ _ _ _ _ _ _ _ hL ⟨rfl, hst⟩ hR hpre hK hP hD hS hn hz)
    next => cases q
  case lload_n i =>
    simp only [zS] at q
    split at q
    next v hv =>
      obtain ⟨V, e1, e2⟩ := zLo_ld hL hv
      cases e2
      exact lv_lload_n hx hb hd rfl e1 (hk _ _ _ q _ _ _ _ _ _ _ _ _ hL ⟨rfl, hst⟩ hR hpre hK hP hD hS hn hz)
    next => cases q
  case aload i =>
    simp only [zS] at q
    split at q
    next v hv =>
      obtain ⟨V, e1, e2⟩ := zLo_ld hL hv
      rcases v with _ | v
      · cases e2
        exact lv_aloadN hx hb hd e1 (hk _ _ _ q _ _ _ _ _ _ _ _ _ hL ⟨rfl, hst⟩ hR hpre hK hP hD hS hn hz)
      · obtain ⟨a, e3, rfl⟩ := e2
        exact lv_aload hx hb hd e1 (hk _ _ _ q _ _ _ _ _ _ _ _ _ hL ⟨⟨a, e3, rfl⟩, hst⟩ hR hpre hK hP hD hS hn hz)
    next => cases q
  case aload_n i =>
    simp only [zS] at q
    split at q
    next v hv =>
      obtain ⟨V, e1, e2⟩ := zLo_ld hL hv
      rcases v with _ | v
      · cases e2
        exact lv_aload_nN hx hb hd rfl e1 (hk _ _ _ q _ _ _ _ _ _ _ _ _ hL ⟨rfl, hst⟩ hR hpre hK hP hD hS hn hz)
      · obtain ⟨a, e3, rfl⟩ := e2
        exact lv_aload_n hx hb hd rfl e1 (hk _ _ _ q _ _ _ _ _ _ _ _ _ hL ⟨⟨a, e3, rfl⟩, hst⟩ hR hpre hK hP hD hS hn hz)
    next => cases q
  case istore i =>
    rcases st with _ | ⟨v | v | v, st⟩ <;> first | (cases q; done) | skip
    obtain ⟨T, rfl, hst1⟩ := zSt_i hst
    obtain ⟨lv, hlv, hc⟩ := zLo_lv hL
    exact lv_istore hx hb hd hlv ok rfl (fun ls' hlz => hk _ _ _ q _ _ _ _ _ _ _ _ _ (zLo_s1 hc rfl hlz) hst1 hR hpre hK hP hD hS hn hz)
  case istore_n i =>
    rcases st with _ | ⟨v | v | v, st⟩ <;> first | (cases q; done) | skip
    obtain ⟨T, rfl, hst1⟩ := zSt_i hst
    obtain ⟨lv, hlv, hc⟩ := zLo_lv hL
    exact lv_istore_n hx hb hd rfl hlv ok rfl (fun ls' hlz => hk _ _ _ q _ _ _ _ _ _ _ _ _ (zLo_s1 hc rfl hlz) hst1 hR hpre hK hP hD hS hn hz)
  case lstore i =>
    rcases st with _ | ⟨v | v | v, st⟩ <;> first | (cases q; done) | skip
    obtain ⟨T, rfl, hst1⟩ := zSt_l hst
    obtain ⟨lv, hlv, hc⟩ := zLo_lv hL
    exact lv_lstore hx hb hd hlv ok rfl (fun ls' hlz => hk _ _ _ q _ _ _ _ _ _ _ _ _ (zLo_s2 hc rfl hlz) hst1 hR hpre hK hP hD hS hn hz)
  case lstore_n i =>
    rcases st with _ | ⟨v | v | v, st⟩ <;> first | (cases q; done) | skip
    obtain ⟨T, rfl, hst1⟩ := zSt_l hst
    obtain ⟨lv, hlv, hc⟩ := zLo_lv hL
    exact lv_lstore_n hx hb hd rfl hlv ok rfl (fun ls' hlz => hk _ _ _ q _ _ _ _ _ _ _ _ _ (zLo_s2 hc rfl hlz) hst1 hR hpre hK hP hD hS hn hz)
  case astore i =>
    rcases st with _ | ⟨v | v | v, st⟩ <;> first | (cases q; done) | skip
    obtain ⟨V, T, rfl, hv, hst1⟩ := zSt_r hst
    obtain ⟨lv, hlv, hc⟩ := zLo_lv hL
    rcases v with _ | v
    · cases hv
      exact lv_astoreN hx hb hd hlv ok rfl (fun ls' hlz => hk _ _ _ q _ _ _ _ _ _ _ _ _ (zLo_s1 hc rfl hlz) hst1 hR hpre hK hP hD hS hn hz)
    · obtain ⟨a, e3, rfl⟩ := hv
      exact lv_astore hx hb hd hlv ok rfl (fun ls' hlz => hk _ _ _ q _ _ _ _ _ _ _ _ _ (zLo_s1 hc ⟨a, e3, rfl⟩ hlz) hst1 hR hpre hK hP hD hS hn hz)
  case astore_n i =>
    rcases st with _ | ⟨v | v | v, st⟩ <;> first | (cases q; done) | skip
    obtain ⟨V, T, rfl, hv, hst1⟩ := zSt_r hst
    obtain ⟨lv, hlv, hc⟩ := zLo_lv hL
    rcases v with _ | v
    · cases hv
      exact lv_astore_nN hx hb hd rfl hlv ok rfl (fun ls' hlz => hk _ _ _ q _ _ _ _ _ _ _ _ _ (zLo_s1 hc rfl hlz) hst1 hR hpre hK hP hD hS hn hz)
    · obtain ⟨a, e3, rfl⟩ := hv
      exact lv_astore_n hx hb hd rfl hlv ok rfl (fun ls' hlz => hk _ _ _ q _ _ _ _ _ _ _ _ _ (zLo_s1 hc ⟨a, e3, rfl⟩ hlz) hst1 hR hpre hK hP hD hS hn hz)
  case iinc i n =>
    simp only [zS] at q
    split at q
    next v hv =>
      obtain ⟨V, e1, e2⟩ := zLo_ld hL hv
      cases e2
      obtain ⟨lv, hlv, hc⟩ := zLo_lv hL
      have hlv2 : lv_has ls nL ((i, .int (Int32.ofInt v)) :: lv) := ⟨hlv.1, hlv.2.1, fun q hq => by
        rcases List.mem_cons.mp hq with rfl | hq
        · exact e1
        · exact hlv.2.2 q hq⟩
      have hi : i < nL := by rw [← hL.1]; exact lv_lt e1
      exact lv_iinc (k := 0) hx hb hd hlv2 rfl (Int32.ofInt_add v n).symm hi rfl (fun ls' hlz => hk _ _ _ q _ _ _ _ _ _ _ _ _ (zLo_s1 (fun j w hw => by obtain ⟨W, z1, z2⟩ := hc j w hw; exact ⟨W, List.mem_cons_of_mem _ z1, z2⟩) rfl hlz) hst hR hpre hK hP hD hS hn hz)
    next => cases q
  case iadd =>
    rcases st with _ | ⟨b | b | b, _ | ⟨a | a | a, st⟩⟩ <;> first | (cases q; done) | skip
    obtain ⟨T, rfl, hst1⟩ := zSt_i hst
    obtain ⟨T, rfl, hst2⟩ := zSt_i hst1
    exact lv_iadd hx hb hd (hk _ _ _ q _ _ _ _ _ _ _ _ _ hL ⟨by show _ = _; rw [Int32.ofInt_add], hst2⟩ hR hpre hK hP hD hS hn hz)
  case isub =>
    rcases st with _ | ⟨b | b | b, _ | ⟨a | a | a, st⟩⟩ <;> first | (cases q; done) | skip
    obtain ⟨T, rfl, hst1⟩ := zSt_i hst
    obtain ⟨T, rfl, hst2⟩ := zSt_i hst1
    exact lv_isub hx hb hd (hk _ _ _ q _ _ _ _ _ _ _ _ _ hL ⟨by show _ = _; rw [Int32.ofInt_sub], hst2⟩ hR hpre hK hP hD hS hn hz)
  case imul =>
    rcases st with _ | ⟨b | b | b, _ | ⟨a | a | a, st⟩⟩ <;> first | (cases q; done) | skip
    obtain ⟨T, rfl, hst1⟩ := zSt_i hst
    obtain ⟨T, rfl, hst2⟩ := zSt_i hst1
    exact lv_imul hx hb hd (hk _ _ _ q _ _ _ _ _ _ _ _ _ hL ⟨by show _ = _; rw [Int32.ofInt_mul], hst2⟩ hR hpre hK hP hD hS hn hz)
  case iand =>
    rcases st with _ | ⟨b | b | b, _ | ⟨a | a | a, st⟩⟩ <;> first | (cases q; done) | skip
    obtain ⟨T, rfl, hst1⟩ := zSt_i hst
    obtain ⟨T, rfl, hst2⟩ := zSt_i hst1
    exact lv_iand hx hb hd (hk _ _ _ q _ _ _ _ _ _ _ _ _ hL ⟨by show _ = _; unfold zand; rw [Int32.ofInt_toInt], hst2⟩ hR hpre hK hP hD hS hn hz)
  case ior =>
    rcases st with _ | ⟨b | b | b, _ | ⟨a | a | a, st⟩⟩ <;> first | (cases q; done) | skip
    obtain ⟨T, rfl, hst1⟩ := zSt_i hst
    obtain ⟨T, rfl, hst2⟩ := zSt_i hst1
    exact lv_ior hx hb hd (hk _ _ _ q _ _ _ _ _ _ _ _ _ hL ⟨by show _ = _; unfold zor; rw [Int32.ofInt_toInt], hst2⟩ hR hpre hK hP hD hS hn hz)
  case ishl =>
    rcases st with _ | ⟨b | b | b, _ | ⟨a | a | a, st⟩⟩ <;> first | (cases q; done) | skip
    obtain ⟨T, rfl, hst1⟩ := zSt_i hst
    obtain ⟨T, rfl, hst2⟩ := zSt_i hst1
    exact lv_ishl hx hb hd (hk _ _ _ q _ _ _ _ _ _ _ _ _ hL ⟨by show _ = _; unfold zshl; rw [Int32.ofInt_toInt], hst2⟩ hR hpre hK hP hD hS hn hz)
  case ishr =>
    rcases st with _ | ⟨b | b | b, _ | ⟨a | a | a, st⟩⟩ <;> first | (cases q; done) | skip
    obtain ⟨T, rfl, hst1⟩ := zSt_i hst
    obtain ⟨T, rfl, hst2⟩ := zSt_i hst1
    exact lv_ishr hx hb hd (hk _ _ _ q _ _ _ _ _ _ _ _ _ hL ⟨by show _ = _; unfold zshr; rw [Int32.ofInt_toInt], hst2⟩ hR hpre hK hP hD hS hn hz)
  case iushr =>
    rcases st with _ | ⟨b | b | b, _ | ⟨a | a | a, st⟩⟩ <;> first | (cases q; done) | skip
    obtain ⟨T, rfl, hst1⟩ := zSt_i hst
    obtain ⟨T, rfl, hst2⟩ := zSt_i hst1
    exact lv_iushr hx hb hd rfl (hk _ _ _ q _ _ _ _ _ _ _ _ _ hL ⟨by show _ = _; unfold zushr; rw [Int32.ofInt_toInt], hst2⟩ hR hpre hK hP hD hS hn hz)
  case idiv =>
    rcases st with _ | ⟨b | b | b, _ | ⟨a | a | a, st⟩⟩ <;> first | (cases q; done) | skip
    obtain ⟨T, rfl, hst1⟩ := zSt_i hst
    obtain ⟨T, rfl, hst2⟩ := zSt_i hst1
    simp only [zS] at q
    split at q
    next => cases q
    next h0 => exact lv_idiv hx hb hd (fun z => h0 ((zw_eq0 b).mp z)) (hk _ _ _ q _ _ _ _ _ _ _ _ _ hL ⟨by show _ = _; rw [zw_div], hst2⟩ hR hpre hK hP hD hS hn hz)
  case irem =>
    rcases st with _ | ⟨b | b | b, _ | ⟨a | a | a, st⟩⟩ <;> first | (cases q; done) | skip
    obtain ⟨T, rfl, hst1⟩ := zSt_i hst
    obtain ⟨T, rfl, hst2⟩ := zSt_i hst1
    simp only [zS] at q
    split at q
    next => cases q
    next h0 => exact lv_irem hx hb hd (fun z => h0 ((zw_eq0 b).mp z)) (hk _ _ _ q _ _ _ _ _ _ _ _ _ hL ⟨by show _ = _; rw [zw_mod], hst2⟩ hR hpre hK hP hD hS hn hz)
  case ineg =>
    rcases st with _ | ⟨a | a | a, st⟩ <;> first | (cases q; done) | skip
    obtain ⟨T, rfl, hst1⟩ := zSt_i hst
    exact lv_ineg hx hb hd (hk _ _ _ q _ _ _ _ _ _ _ _ _ hL ⟨by show _ = _; rw [Int32.ofInt_neg], hst1⟩ hR hpre hK hP hD hS hn hz)
  case i2l =>
    rcases st with _ | ⟨a | a | a, st⟩ <;> first | (cases q; done) | skip
    obtain ⟨T, rfl, hst1⟩ := zSt_i hst
    exact lv_i2l hx hb hd (zw_i2l a) (hk _ _ _ q _ _ _ _ _ _ _ _ _ hL ⟨rfl, hst1⟩ hR hpre hK hP hD hS hn hz)
  case l2i =>
    rcases st with _ | ⟨a | a | a, st⟩ <;> first | (cases q; done) | skip
    obtain ⟨T, rfl, hst1⟩ := zSt_l hst
    exact lv_l2i hx hb hd (zw_l2i a) (hk _ _ _ q _ _ _ _ _ _ _ _ _ hL ⟨rfl, hst1⟩ hR hpre hK hP hD hS hn hz)
  case ladd =>
    rcases st with _ | ⟨b | b | b, _ | ⟨a | a | a, st⟩⟩ <;> first | (cases q; done) | skip
    obtain ⟨T, rfl, hst1⟩ := zSt_l hst
    obtain ⟨T, rfl, hst2⟩ := zSt_l hst1
    exact lv_ladd hx hb hd (hk _ _ _ q _ _ _ _ _ _ _ _ _ hL ⟨by show _ = _; rw [Int64.ofInt_add], hst2⟩ hR hpre hK hP hD hS hn hz)
  case lsub =>
    rcases st with _ | ⟨b | b | b, _ | ⟨a | a | a, st⟩⟩ <;> first | (cases q; done) | skip
    obtain ⟨T, rfl, hst1⟩ := zSt_l hst
    obtain ⟨T, rfl, hst2⟩ := zSt_l hst1
    exact lv_lsub hx hb hd (hk _ _ _ q _ _ _ _ _ _ _ _ _ hL ⟨by show _ = _; rw [Int64.ofInt_sub], hst2⟩ hR hpre hK hP hD hS hn hz)
  case lmul =>
    rcases st with _ | ⟨b | b | b, _ | ⟨a | a | a, st⟩⟩ <;> first | (cases q; done) | skip
    obtain ⟨T, rfl, hst1⟩ := zSt_l hst
    obtain ⟨T, rfl, hst2⟩ := zSt_l hst1
    exact lv_lmul hx hb hd (hk _ _ _ q _ _ _ _ _ _ _ _ _ hL ⟨by show _ = _; rw [Int64.ofInt_mul], hst2⟩ hR hpre hK hP hD hS hn hz)
  case land =>
    rcases st with _ | ⟨b | b | b, _ | ⟨a | a | a, st⟩⟩ <;> first | (cases q; done) | skip
    obtain ⟨T, rfl, hst1⟩ := zSt_l hst
    obtain ⟨T, rfl, hst2⟩ := zSt_l hst1
    exact lv_land hx hb hd (hk _ _ _ q _ _ _ _ _ _ _ _ _ hL ⟨by show _ = _; unfold zandl; rw [Int64.ofInt_toInt], hst2⟩ hR hpre hK hP hD hS hn hz)
  case lor =>
    rcases st with _ | ⟨b | b | b, _ | ⟨a | a | a, st⟩⟩ <;> first | (cases q; done) | skip
    obtain ⟨T, rfl, hst1⟩ := zSt_l hst
    obtain ⟨T, rfl, hst2⟩ := zSt_l hst1
    exact lv_lor hx hb hd (hk _ _ _ q _ _ _ _ _ _ _ _ _ hL ⟨by show _ = _; unfold zorl; rw [Int64.ofInt_toInt], hst2⟩ hR hpre hK hP hD hS hn hz)
  case lneg =>
    rcases st with _ | ⟨a | a | a, st⟩ <;> first | (cases q; done) | skip
    obtain ⟨T, rfl, hst1⟩ := zSt_l hst
    exact lv_lneg hx hb hd (hk _ _ _ q _ _ _ _ _ _ _ _ _ hL ⟨by show _ = _; rw [Int64.ofInt_neg], hst1⟩ hR hpre hK hP hD hS hn hz)
  case ldiv =>
    rcases st with _ | ⟨b | b | b, _ | ⟨a | a | a, st⟩⟩ <;> first | (cases q; done) | skip
    obtain ⟨T, rfl, hst1⟩ := zSt_l hst
    obtain ⟨T, rfl, hst2⟩ := zSt_l hst1
    simp only [zS] at q
    split at q
    next => cases q
    next h0 => exact lv_ldiv hx hb hd (fun z => h0 ((zwl_eq0 b).mp z)) (hk _ _ _ q _ _ _ _ _ _ _ _ _ hL ⟨by show _ = _; rw [zwl_div], hst2⟩ hR hpre hK hP hD hS hn hz)
  case lrem =>
    rcases st with _ | ⟨b | b | b, _ | ⟨a | a | a, st⟩⟩ <;> first | (cases q; done) | skip
    obtain ⟨T, rfl, hst1⟩ := zSt_l hst
    obtain ⟨T, rfl, hst2⟩ := zSt_l hst1
    simp only [zS] at q
    split at q
    next => cases q
    next h0 => exact lv_lrem hx hb hd (fun z => h0 ((zwl_eq0 b).mp z)) (hk _ _ _ q _ _ _ _ _ _ _ _ _ hL ⟨by show _ = _; rw [zwl_mod], hst2⟩ hR hpre hK hP hD hS hn hz)
  case lshl =>
    rcases st with _ | ⟨b | b | b, _ | ⟨a | a | a, st⟩⟩ <;> first | (cases q; done) | skip
    obtain ⟨T, rfl, hst1⟩ := zSt_i hst
    obtain ⟨T, rfl, hst2⟩ := zSt_l hst1
    exact lv_lshl hx hb hd rfl (hk _ _ _ q _ _ _ _ _ _ _ _ _ hL ⟨by show _ = _; unfold zshll; rw [Int64.ofInt_toInt], hst2⟩ hR hpre hK hP hD hS hn hz)
  case lushr =>
    rcases st with _ | ⟨b | b | b, _ | ⟨a | a | a, st⟩⟩ <;> first | (cases q; done) | skip
    obtain ⟨T, rfl, hst1⟩ := zSt_i hst
    obtain ⟨T, rfl, hst2⟩ := zSt_l hst1
    exact lv_lushr hx hb hd rfl (hk _ _ _ q _ _ _ _ _ _ _ _ _ hL ⟨by show _ = _; unfold zushrl; rw [Int64.ofInt_toInt], hst2⟩ hR hpre hK hP hD hS hn hz)
  case lcmp =>
    rcases st with _ | ⟨b | b | b, _ | ⟨a | a | a, st⟩⟩ <;> first | (cases q; done) | skip
    obtain ⟨T, rfl, hst1⟩ := zSt_l hst
    obtain ⟨T, rfl, hst2⟩ := zSt_l hst1
    exact W.lcmp hx hb hd (hk _ _ _ q _ _ _ _ _ _ _ _ _ hL ⟨by show _ = _; rw [zwl_cmp], hst2⟩ hR hpre hK hP hD hS hn hz)
  case dup =>
    rcases st with _ | ⟨a | a | a, st⟩ <;> first | (cases q; done) | skip
    · obtain ⟨T, rfl, hst1⟩ := zSt_i hst
      exact lv_dup hx hb hd rfl (hk _ _ _ q _ _ _ _ _ _ _ _ _ hL ⟨rfl, rfl, hst1⟩ hR hpre hK hP hD hS hn hz)
    · obtain ⟨V, T, rfl, hv, hst1⟩ := zSt_r hst
      exact lv_dup hx hb hd (zcR_cat hv) (hk _ _ _ q _ _ _ _ _ _ _ _ _ hL ⟨hv, hv, hst1⟩ hR hpre hK hP hD hS hn hz)
  case dup2 =>
    rcases st with _ | ⟨b | b | b, _ | ⟨a | a | a, st⟩⟩ <;> first | (cases q; done) | skip
    obtain ⟨T, rfl, hst1⟩ := zSt_i hst
    obtain ⟨V, T, rfl, hv, hst2⟩ := zSt_r hst1
    exact lv_dup2_11 hx hb hd rfl (zcR_cat hv) (hk _ _ _ q _ _ _ _ _ _ _ _ _ hL ⟨rfl, hv, rfl, hv, hst2⟩ hR hpre hK hP hD hS hn hz)
  case pop =>
    rcases st with _ | ⟨a | a | a, st⟩ <;> first | (cases q; done) | skip
    · obtain ⟨T, rfl, hst1⟩ := zSt_i hst
      exact lv_pop hx hb hd rfl (hk _ _ _ q _ _ _ _ _ _ _ _ _ hL hst1 hR hpre hK hP hD hS hn hz)
    · obtain ⟨V, T, rfl, hv, hst1⟩ := zSt_r hst
      exact lv_pop hx hb hd (zcR_cat hv) (hk _ _ _ q _ _ _ _ _ _ _ _ _ hL hst1 hR hpre hK hP hD hS hn hz)
  case getfield i =>
    obtain ⟨ci, j, kd, rfl, T, N, hc, hj, hT1, hlink⟩ := ok
    have hcc := hcl ci _ _ _ hc
    have main : ∀ (r : Option Nat) (v : zV) (st' : List zV), st = .inr (.inr r) :: st' → zfd h r ci j = some v → zSim p l e R s m args below meth c Q nL D cl A ads0 n0 z0 (pc + 3) L (v :: st') h → W p l e R s m args below meth c H locs cells slots Q (F0 m pc ls sv) := by
      intro r v st' hst0 hv hkk
      subst hst0
      obtain ⟨p', c', rfl, hp, hci, hcj⟩ := zfd_some hv
      obtain ⟨V, sv', rfl, hV, hst1⟩ := zSt_r hst
      obtain ⟨a, ha, rfl⟩ := hV
      obtain ⟨fs, he, hfs⟩ := zRep_obj hR hp (by rw [hci]; exact hcc.2.2.2.2.2) ha
      rw [hci] at he
      obtain ⟨V2, g1, g2⟩ := zSt_get hfs hcj
      exact va_get hx hb hts hcc.1 hown hK hP p' he hc j hj (hts _ hlink) (fun x h9 => by rw [hT1] at h9; exact h9) g1 hd (hkk _ _ _ _ _ _ _ _ _ hL ⟨g2, hst1⟩ hR hpre hK hP hD hS hn hz)
    rcases kd with _ | _ | _ | kd <;> rcases st with _ | ⟨a | a | r, st⟩ <;> first | (cases q; done) | skip
    · simp only [zS, zgi] at q
      split at q
      next v hv => exact main r _ st rfl hv (hk _ _ _ q)
      next => cases q
    · simp only [zS, zgl] at q
      split at q
      next v hv => exact main r _ st rfl hv (hk _ _ _ q)
      next => cases q
    · simp only [zS, zgr] at q
      split at q
      next v hv => exact main r _ st rfl hv (hk _ _ _ q)
      next => cases q
  case putfield i =>
    obtain ⟨ci, j, kd, rfl, T, N, hc, hj, hT1, hlink, ⟨ty, hty, hkd⟩, hfin⟩ := ok
    obtain ⟨hcw, ⟨ty0, hty0⟩, hnm, -, -, hlt⟩ := hcl ci _ _ _ hc
    have main : ∀ (r : Option Nat) (v : zV) (st' : List zV), st = v :: .inr (.inr r) :: st' → (∀ V, zcR ads v V → narrow ty V = V ∧ fits ty V = true) → zpf h r ci j v (fun h => k L st' h) = some res → W p l e R s m args below meth c H locs cells slots Q (F0 m pc ls sv) := by
      intro r v st' hst0 hfit q1
      subst hst0
      obtain ⟨p', c', rfl, hp, hci, hlen, q2⟩ := zpf_some q1
      rcases sv with _ | ⟨V, sv⟩
      · exact hst.elim
      obtain ⟨hV0, hst0⟩ := hst
      obtain ⟨V2, sv', rfl, hV, hst1⟩ := zSt_r hst0
      obtain ⟨a, ha, rfl⟩ := hV
      obtain ⟨fs, he, hfs⟩ := zRep_obj hR hp (by rw [hci]; exact hlt) ha
      rw [hci] at he
      have hfs2 := zSt_len hfs
      obtain ⟨f1, f2⟩ := hfit V hV0
      have fin : ∀ (H1 : Heap) (locs1 : List Loc), va_P D cl (ws.set p' (a, .inr (ci, fs.set j V))) H1 → va_D A (ws.set p' (a, .inr (ci, fs.set j V))) → va_S A s.heap H1 locs1 → W p l e R s m args below meth c H1 locs1 cells slots Q (F0 m (pc + 3) ls sv') := fun H1 locs1 hP1 hD1 hS1 =>
        hk _ _ _ q2 _ _ _ _ _ _ _ _ _ hL hst1 (zRep_set hR ha (Or.inl ⟨by rw [hci]; exact hlt, fs.set j V, by rw [hci], zSt_set j hfs hV0⟩)) hpre hK hP1 hD1 hS1 (by rw [List.length_set]; exact hn) (by rw [zsz_set h p' c' _ hp (by simp)]; exact hz)
      by_cases hf0 : (T j).2.2.2 = false
      · exact va_put hx hb hts hcw ty0 hty0 hnm hown hK hP hD hS p' he hc j hj (hts _ hlink) (fun x h9 => by rw [hT1] at h9; exact h9) hf0 hty f1 f2 (by rw [hfs2]; exact hlen) hd fin
      · exact va_putF hx hb hts hcw ty0 hty0 hnm hown hK hP hD hS p' he hc j hj (hts _ hlink) (fun x h9 => by rw [hT1] at h9; exact h9) (by simpa using hf0) (hct (hfin.resolve_left hf0)) hT1 hty f1 f2 (by rw [hfs2]; exact hlen) hd fin
    rcases kd with _ | _ | _ | _ | kd <;> rcases st with _ | ⟨v | v | v, _ | ⟨a | a | r, st⟩⟩ <;> first | (cases q; done) | skip
    · cases hkd
      exact main r _ st rfl (fun V hV => by cases hV; exact ⟨rfl, rfl⟩) q
    · cases hkd
      exact main r _ st rfl (fun V hV => by cases hV; exact ⟨rfl, rfl⟩) q
    · exact main r _ st rfl (fun V hV => zfit_r hV hkd) q
    · cases hkd
      simp only [zS] at q
      split at q
      next hv => exact main r _ st rfl (fun V hV => by cases hV; exact zfit_b hv) q
      next => cases q
  case iaload =>
    rcases st with _ | ⟨i | i | i, _ | ⟨a | a | r, st⟩⟩ <;> first | (cases q; done) | skip
    simp only [zS, zai] at q
    split at q
    next v hv =>
      obtain ⟨T1, rfl, hst1⟩ := zSt_i hst
      obtain ⟨V, T2, rfl, hV, hst2⟩ := zSt_r hst1
      obtain ⟨h0, ⟨rfl, -, x0, hx0, hx1⟩ | ⟨p', c', rfl, hp, htag, hcj⟩⟩ := zar_some hv
      · cases hx1
        obtain ⟨a, ha, rfl⟩ := hV
        have hab : a = b := Option.some.inj (ha.symm.trans (hpre _ _ hb0))
        subst hab
        have hlt := (List.getElem?_eq_some_iff.mp hx0).1
        refine va_sld hx hb hX hbl hbA hS (zw_in h0 hlt) hd ?_
        refine hk _ _ _ q _ _ _ _ _ _ _ _ _ hL ⟨?_, hst2⟩ hR hpre hK hP hD hS hn hz
        show Value.int (zxf xs _) = _
        rw [zw_clamp]
        simp [zxf, List.getD, hx0]
      · obtain ⟨a, ha, rfl⟩ := hV
        obtain ⟨cA, f, he, ht, hf⟩ := zRep_int hR hp htag ha
        obtain ⟨t0, ht0⟩ := zty_mem ht
        obtain ⟨x1, e1, e2⟩ := hf _ _ hcj
        cases e1
        have hlt := (List.getElem?_eq_some_iff.mp hcj).1
        refine va_iald hx hb hK hP p' t0 he ht0 (zw_in h0 hlt) hd ?_
        refine hk _ _ _ q _ _ _ _ _ _ _ _ _ hL ⟨?_, hst2⟩ hR hpre hK hP hD hS hn hz
        show Value.int (f _) = _
        rw [zw_clamp, e2]
    next => cases q
  case laload =>
    rcases st with _ | ⟨i | i | i, _ | ⟨a | a | r, st⟩⟩ <;> first | (cases q; done) | skip
    simp only [zS, zal] at q
    split at q
    next v hv =>
      obtain ⟨T1, rfl, hst1⟩ := zSt_i hst
      obtain ⟨V, T2, rfl, hV, hst2⟩ := zSt_r hst1
      obtain ⟨h0, ⟨rfl, hbad, -⟩ | ⟨p', c', rfl, hp, htag, hcj⟩⟩ := zar_some hv
      · exact absurd hbad (by decide)
      · obtain ⟨a, ha, rfl⟩ := hV
        obtain ⟨cA, f, he, ht, hf⟩ := zRep_long hR hp htag ha
        obtain ⟨t0, ht0⟩ := zty_mem ht
        obtain ⟨x1, e1, e2⟩ := hf _ _ hcj
        cases e1
        have hlt := (List.getElem?_eq_some_iff.mp hcj).1
        refine va_lald hx hb hK hP p' t0 he ht0 (zw_in h0 hlt) hd ?_
        refine hk _ _ _ q _ _ _ _ _ _ _ _ _ hL ⟨?_, hst2⟩ hR hpre hK hP hD hS hn hz
        show Value.long (f _) = _
        rw [zw_clamp, e2]
    next => cases q
  case aaload =>
    obtain ⟨ci, rfl⟩ := ok
    rcases st with _ | ⟨i | i | i, _ | ⟨a | a | r, st⟩⟩ <;> first | (cases q; done) | skip
    simp only [zS, zaa] at q
    split at q
    next v hv =>
      obtain ⟨T1, rfl, hst1⟩ := zSt_i hst
      obtain ⟨V, T2, rfl, hV, hst2⟩ := zSt_r hst1
      obtain ⟨h0, ⟨rfl, hbad, -⟩ | ⟨p', c', rfl, hp, htag, hcj⟩⟩ := zar_some hv
      · omega
      · obtain ⟨a, ha, rfl⟩ := hV
        obtain ⟨cA, f, r, he, hr2, ht, hf⟩ := zRep_ref hR hp (by omega) ha
        obtain ⟨t0, ht0⟩ := zty_mem ht
        obtain ⟨x1, e1, e2⟩ := hf _ _ hcj
        cases e1
        have hlt := (List.getElem?_eq_some_iff.mp hcj).1
        refine va_aldq hx hb hK hP p' t0 he ht0 (zw_in h0 hlt) hd ?_
        refine hk _ _ _ q _ _ _ _ _ _ _ _ _ hL ⟨?_, hst2⟩ hR hpre hK hP hD hS hn hz
        rw [zw_clamp]
        exact e2
    next => cases q
  case iastore =>
    rcases st with _ | ⟨v | v | v, _ | ⟨i | i | i, _ | ⟨a | a | r, st⟩⟩⟩ <;> first | (cases q; done) | skip
    obtain ⟨p', c', rfl, hp, htag, h0, hlt, q⟩ := zst_some q
    obtain ⟨T1, rfl, hst1⟩ := zSt_i hst
    obtain ⟨T2, rfl, hst2⟩ := zSt_i hst1
    obtain ⟨V, T3, rfl, hV, hst3⟩ := zSt_r hst2
    obtain ⟨a, ha, rfl⟩ := hV
    obtain ⟨cA, f, he, ht, hf⟩ := zRep_int hR hp htag ha
    obtain ⟨t0, ht0⟩ := zty_mem ht
    refine va_iast hx hb hK hP hD hS p' t0 he ht0 (zw_in h0 hlt) hd (fun H1 locs1 hP1 hD1 hS1 => ?_)
    refine hk _ _ _ q _ _ _ _ _ _ _ _ _ hL hst3 (zRep_set hR ha (Or.inr (Or.inl ⟨htag, cA, _, by rw [List.length_set], ht, fun j w hw => ?_⟩))) hpre hK hP1 hD1 hS1 (by rw [List.length_set]; exact hn) (by rw [zsz_set h p' c' _ hp (by simp)]; exact hz)
    rw [zw_clamp]
    by_cases hj : j = (zw i).toNat
    · subst hj
      rw [List.getElem?_set_self hlt] at hw
      cases hw
      exact ⟨v, rfl, pk_us⟩
    · rw [List.getElem?_set_ne (Ne.symm hj)] at hw
      obtain ⟨x1, e1, e2⟩ := hf j w hw
      exact ⟨x1, e1, by rw [pk_un hj]; exact e2⟩
  case lastore =>
    rcases st with _ | ⟨v | v | v, _ | ⟨i | i | i, _ | ⟨a | a | r, st⟩⟩⟩ <;> first | (cases q; done) | skip
    obtain ⟨p', c', rfl, hp, htag, h0, hlt, q⟩ := zst_some q
    obtain ⟨T1, rfl, hst1⟩ := zSt_l hst
    obtain ⟨T2, rfl, hst2⟩ := zSt_i hst1
    obtain ⟨V, T3, rfl, hV, hst3⟩ := zSt_r hst2
    obtain ⟨a, ha, rfl⟩ := hV
    obtain ⟨cA, f, he, ht, hf⟩ := zRep_long hR hp htag ha
    obtain ⟨t0, ht0⟩ := zty_mem ht
    refine va_last hx hb hK hP hD hS p' t0 he ht0 (zw_in h0 hlt) hd (fun H1 locs1 hP1 hD1 hS1 => ?_)
    refine hk _ _ _ q _ _ _ _ _ _ _ _ _ hL hst3 (zRep_set hR ha (Or.inr (Or.inr (Or.inl ⟨htag, cA, _, by rw [List.length_set], ht, fun j w hw => ?_⟩)))) hpre hK hP1 hD1 hS1 (by rw [List.length_set]; exact hn) (by rw [zsz_set h p' c' _ hp (by simp)]; exact hz)
    rw [zw_clamp]
    by_cases hj : j = (zw i).toNat
    · subst hj
      rw [List.getElem?_set_self hlt] at hw
      cases hw
      exact ⟨v, rfl, pk_uLs⟩
    · rw [List.getElem?_set_ne (Ne.symm hj)] at hw
      obtain ⟨x1, e1, e2⟩ := hf j w hw
      exact ⟨x1, e1, by rw [pk_uLn hj]; exact e2⟩
  case aastore =>
    obtain ⟨ci, rfl⟩ := ok
    rcases st with _ | ⟨v | v | (_ | _ | v), _ | ⟨i | i | i, _ | ⟨a | a | r, st⟩⟩⟩ <;> first | (cases q; done) | skip
    simp only [zS] at q
    cases hv0 : h[v]? with
    | none => rw [hv0] at q; cases q
    | some cv0 =>
    rw [hv0] at q
    simp only at q
    split at q
    next hci =>
      obtain ⟨p', c', rfl, hp, htag, h0, hlt, q⟩ := zst_some q
      obtain ⟨V, T1, rfl, hV0, hst1⟩ := zSt_r hst
      obtain ⟨T2, rfl, hst2⟩ := zSt_i hst1
      obtain ⟨V, T3, rfl, hV, hst3⟩ := zSt_r hst2
      obtain ⟨a, ha, rfl⟩ := hV
      obtain ⟨av, hav, rfl⟩ := hV0
      obtain ⟨cA, f, r, he, hr2, ht, hf⟩ := zRep_ref hR hp (by omega) ha
      obtain ⟨t0, ht0⟩ := zty_mem ht
      rw [htag, show 102 + ci - 102 = ci by omega] at hr2
      obtain ⟨fs, hve, hfs⟩ := zRep_obj hR hv0 (by rw [hci]; exact (hcl ci r.1 r.2.1 r.2.2 hr2).2.2.2.2.2) hav
      rw [hci] at hve
      refine va_astq hx hb hK hP hD hS p' t0 v ci he ht0 hve hr2 (zw_in h0 hlt) hd (fun H1 locs1 hP1 hD1 hS1 => ?_)
      refine hk _ _ _ q _ _ _ _ _ _ _ _ _ hL hst3 (zRep_set hR ha (Or.inr (Or.inr (Or.inr ⟨by show 102 ≤ c'.1; omega, cA, _, r, by rw [List.length_set], by show cl[c'.1 - 102]? = _; rw [htag, show 102 + ci - 102 = ci by omega]; exact hr2, ht, fun j w hw => ?_⟩)))) hpre hK hP1 hD1 hS1 (by rw [List.length_set]; exact hn) (by rw [zsz_set h p' c' _ hp (by simp)]; exact hz)
      rw [zw_clamp]
      by_cases hj : j = (zw i).toNat
      · subst hj
        rw [List.getElem?_set_self hlt] at hw
        cases hw
        exact ⟨some (v + 1), rfl, av, hav, by simp [va_up, va_rf]⟩
      · rw [List.getElem?_set_ne (Ne.symm hj)] at hw
        obtain ⟨x1, e1, e2⟩ := hf j w hw
        exact ⟨x1, e1, by rw [show va_up f (zw i).toNat (some av) j = f j by simp [va_up, hj]]; exact e2⟩
    next => cases q
  case arraylength =>
    rcases st with _ | ⟨a | a | r, st⟩ <;> first | (cases q; done) | skip
    obtain ⟨V, T, rfl, hV, hst1⟩ := zSt_r hst
    have q : zln xs h r (fun v => k L (.inl v :: st) h) = some res := q
    rcases r with _ | _ | p'
    · cases q
    · obtain ⟨a, ha, rfl⟩ := hV
      have hab : a = b := Option.some.inj (ha.symm.trans (hpre _ _ hb0))
      subst hab
      refine va_slen hx hb hX hbl hbA hS hd ?_
      exact hk _ _ _ q _ _ _ _ _ _ _ _ _ hL ⟨by show _ = _; rw [zofNat], hst1⟩ hR hpre hK hP hD hS hn hz
    · unfold zln at q
      dsimp only at q
      cases hp : h[p']? with
      | none => rw [hp] at q; cases q
      | some c' =>
      rw [hp] at q
      dsimp only at q
      split at q
      next htag =>
        obtain ⟨a, ha, rfl⟩ := hV
        obtain ⟨cA, x, ty, he, ht, hlen⟩ := zRep_arr hR hp htag ha
        obtain ⟨t0, ht0⟩ := zty_mem ht
        refine va_alen hx hb hK hP p' t0 he ht0 (v := Int32.ofInt c'.2.length) (by rw [hlen, zofNat]) hd ?_
        exact hk _ _ _ q _ _ _ _ _ _ _ _ _ hL ⟨rfl, hst1⟩ hR hpre hK hP hD hS hn hz
      next => cases q
  case new i =>
    obtain ⟨ci, ks, rfl, C, T, N, hc, hks, hlink, hdef⟩ := ok
    obtain ⟨hcw, ⟨ty0, hty0⟩, hnm, hinst, hini, hlt⟩ := hcl ci _ _ _ hc
    have q : k L (.inr (.inr (some (h.length + 1))) :: st) (h ++ [(ci, ks.map fun t => match t with | 0 => .inl 0 | 1 => .inr (.inl 0) | _ => .inr (.inr none))]) = some res := q
    obtain ⟨r1, r2⟩ := hr _ _ _ q
    rw [List.length_append] at r1
    rw [zsz_app] at r2
    simp only [List.length_singleton, zsz, List.length_map] at r1 r2
    have hfs : ∀ j, j < N → defaultValue (ty0 j) = vp_V (ks.map zdfv) j := by
      intro j hj
      obtain ⟨kd, hkd⟩ : ∃ kd, ks[j]? = some kd := ⟨_, List.getElem?_eq_getElem (by omega)⟩
      obtain ⟨ty, h1, h2⟩ := hdef j kd hkd
      have h3 : ty0 j = ty := Option.some.inj ((hty0 j hj).symm.trans h1)
      rw [h3]
      have h4 : vp_V (ks.map zdfv) j = zdfv kd := by simp [vp_V, List.getD, hkd]
      rw [h4]
      rcases h2 with ⟨rfl, rfl | rfl⟩ | ⟨rfl, rfl⟩ | ⟨rfl, ⟨n, rfl⟩ | ⟨t, rfl⟩⟩ <;> rfl
    refine va_new hx hb hts hcw ty0 hty0 hown (hts _ hlink) (hts _ hinst) (hts _ hini) hK hP hD hS hA hc hfs (by omega) (by omega) hd (fun qa H1 hP1 hD1 hS1 => ?_)
    refine hk _ _ _ q _ _ _ _ _ _ _ _ _ (zLo_pre (zpre_app _ _) hL) ⟨⟨qa, by rw [← hR.2.1, List.getElem?_append_right (by omega)]; simp, rfl⟩, zSt_pre (zpre_app _ _) hst⟩ (zRep_app hR (fun _ z => z) (Or.inl ⟨hlt, _, rfl, ?_⟩)) (zpre_tr hpre (zpre_app _ _)) hK hP1 hD1 hS1 (by rw [List.length_append]; simp; omega) (by rw [zsz_app]; simp only [zsz, List.length_map]; omega)
    exact zdfv_ok ads ks
  case newarray t =>
    have main : ∀ (n : Int) (st' : List zV) (ty : FieldType) (tag : Nat) (v0 : zV) (a0 : Nat → vp_A), (∀ N', (a0 N').1 = N') → st = .inl n :: st' → newarray.typeOf t = ty → Cond.arrayClass ty ∈ Ts → componentBytes ty ≤ 8 → (∀ (N' : Nat) (cA : ClassId), vp_cell cA (a0 N') = arrV cA N' (fun _ => defaultValue ty)) → (∀ (ads : List Nat) (N' : Nat) (cA : ClassId) (tys : List (ClassId × FieldType)), zCe cl ads (tys ++ [(cA, ty)]) (tag, List.replicate N' v0) (.inl (cA, a0 N'))) → 0 ≤ zw n ∧ zw n ≤ 1000000 → k L (.inr (.inr (some (h.length + 1))) :: st') (h ++ [(tag, List.replicate (zw n).toNat v0)]) = some res → W p l e R s m args below meth c H locs cells slots Q (F0 m pc ls sv) := by
      intro n st' ty tag v0 a0 ha1 hst0 hty harr hcb ha0 hce hn0 q1
      subst hst0
      obtain ⟨T, rfl, hst1⟩ := zSt_i hst
      obtain ⟨r1, r2⟩ := hr _ _ _ q1
      rw [List.length_append] at r1
      rw [zsz_app] at r2
      simp only [List.length_singleton, zsz, List.length_replicate] at r1 r2
      refine va_newa hx hb (by rw [hty]; exact hts _ harr) hty hK hP hD hS hA (ha0 (zw n).toNat) (fun z => by have := (zw_lt0 n).mp z; omega) (zw_clamp n) ?_ (by omega) (by omega) hd (fun qa cA H1 hK1 hP1 hD1 hS1 => ?_)
      · have : (zw n).toNat * componentBytes ty ≤ 1000000 * 8 := Nat.mul_le_mul (by omega) hcb
        omega
      · exact hk _ _ _ q1 _ _ _ _ _ _ _ _ _ (zLo_pre (zpre_app _ _) hL) ⟨⟨qa, by rw [← hR.2.1, List.getElem?_append_right (by omega)]; simp, rfl⟩, zSt_pre (zpre_app _ _) hst1⟩ (zRep_app hR (fun _ z => List.mem_append_left _ z) (hce _ _ _ _)) (zpre_tr hpre (zpre_app _ _)) hK1 hP1 hD1 hS1 (by rw [List.length_append]; simp; omega) (by rw [zsz_app]; simp only [zsz, List.length_replicate]; omega)
    rcases ok with ⟨rfl, rfl, harr⟩ | ⟨rfl, rfl, harr⟩ <;> rcases st with _ | ⟨n | n | n, st⟩ <;> first | (cases q; done) | skip
    · simp only [zS] at q
      split at q
      next hn0 => exact main n st .int 100 (.inl 0) (fun N' => (N', .inl (fun _ => 0))) (fun _ => rfl) rfl rfl harr (by decide) (fun _ _ => rfl) (fun ads N' cA tys => Or.inr (Or.inl ⟨rfl, cA, fun _ => 0, by rw [List.length_replicate], by simp, fun j v hv => ⟨0, by simp [List.getElem?_replicate] at hv; exact hv.2.symm, rfl⟩⟩)) hn0 q
      next => cases q
    · simp only [zS] at q
      split at q
      next hn0 => exact main n st .long 101 (.inr (.inl 0)) (fun N' => (N', .inr (.inl (fun _ => 0)))) (fun _ => rfl) rfl rfl harr (by decide) (fun _ _ => rfl) (fun ads N' cA tys => Or.inr (Or.inr (Or.inl ⟨rfl, cA, fun _ => 0, by rw [List.length_replicate], by simp, fun j v hv => ⟨0, by simp [List.getElem?_replicate] at hv; exact hv.2.symm, rfl⟩⟩))) hn0 q
      next => cases q
  case anewarray i =>
    obtain ⟨ci, C, T, N, rfl, hc, hlink, hov⟩ := ok
    rcases st with _ | ⟨n | n | n, st⟩ <;> first | (cases q; done) | skip
    simp only [zS] at q
    split at q
    next hn0 =>
      obtain ⟨T1, rfl, hst1⟩ := zSt_i hst
      obtain ⟨r1, r2⟩ := hr _ _ _ q
      rw [List.length_append] at r1
      rw [zsz_app] at r2
      simp only [List.length_singleton, zsz, List.length_replicate] at r1 r2
      refine va_newq hx hb hown (hts _ hlink) (va_AO.of (hts _ hov)) hK hP hD hS hA (fun z => by have := (zw_lt0 n).mp z; omega) (zw_clamp n) (by omega) (by omega) (by omega) hd (fun qa cA H1 hK1 hP1 hD1 hS1 => ?_)
      refine hk _ _ _ q _ _ _ _ _ _ _ _ _ (zLo_pre (zpre_app _ _) hL) ⟨⟨qa, by rw [← hR.2.1, List.getElem?_append_right (by omega)]; simp, rfl⟩, zSt_pre (zpre_app _ _) hst1⟩ (zRep_app hR (fun _ z => List.mem_append_left _ z) (Or.inr (Or.inr (Or.inr ⟨by show 102 ≤ 102 + ci; omega, cA, fun _ => none, (C, T, N), by rw [List.length_replicate], by show cl[102 + ci - 102]? = _; rw [show 102 + ci - 102 = ci by omega]; exact hc, by simp, fun j v hv => ⟨none, by simp [List.getElem?_replicate] at hv; exact hv.2.symm, rfl⟩⟩)))) (zpre_tr hpre (zpre_app _ _)) hK1 hP1 hD1 hS1 (by rw [List.length_append]; simp; omega) (by rw [zsz_app]; simp only [zsz, List.length_replicate]; omega)
    next => cases q

  all_goals first
    | (cases q; done)
    | (exfalso; cases q; done)
end ZSIM
end
section
/-! ===== a whole reading is a run of the machine ===== -/
abbrev zM : Type := MethodName × ByteArray × Nat × Option FieldType × Nat × Nat
/-- words that a contract hands on beside the good ones: links of nest mates, arrays over a class -/
def zbad (w : Cond) : Prop := (∃ a i x h, w = .methodLinkNest a i x h) ∨ ∃ C, w = .arrayOver (.object C)
theorem zbad_warm {w : Cond} (h : zbad w) {s U : State} (hW : s.WarmedH U.vm) (hZ : va_Nw w s) : va_Nw w U := by
  rcases h with ⟨a, i, x, h, rfl⟩ | ⟨C, rfl⟩
  · exact va_Nw.warmM hW hZ
  · exact va_AO.moved hW.alike hZ
theorem zbad_same {w : Cond} (h : zbad w) {u U : State} (hvm : u.vm = U.vm) (hZ : va_Nw w u) : va_Nw w U := by
  rcases h with ⟨a, i, x, h, rfl⟩ | ⟨C, rfl⟩
  · exact va_Nw.same rfl hvm hZ
  · exact va_AO.moved (by rw [hvm]; exact Vm.Alike.refl _) hZ
theorem zbad_of {w : Cond} (h : zbad w) {args : Array Value} {s : State} (hZ : w.before args s = true) : va_Nw w s := by
  rcases h with ⟨a, i, x, h, rfl⟩ | ⟨C, rfl⟩
  · exact va_Nw.of rfl hZ
  · exact va_AO.of hZ
theorem zbad_use {w : Cond} (h : zbad w) {args : Array Value} {s : State} (hZ : va_Nw w s) : w.before args s = true := by
  rcases h with ⟨a, i, x, h, rfl⟩ | ⟨C, rfl⟩
  · exact va_Nw.use rfl hZ
  · exact va_AO.use hZ
def zTk (Ts : List Cond) : Prop := ∀ w ∈ Ts, goodWord w = true ∨ zbad w
/-- what is returned -/
def zRet (ads : List Nat) : Option zV → Option Value → Prop
  | none, rv => rv = none
  | some v, rv => ∃ V, rv = some V ∧ zcR ads v V
def zRI (I : Instr) (rt : Option FieldType) (rv : Option Value) : Prop :=
  (I = .ireturn ∧ ∃ v, rv = some (.int v) ∧ (rt = some .int ∨ (rt = some .boolean ∧ (v = 0 ∨ v = 1)))) ∨
  (I = .lreturn ∧ rt = some .long ∧ ∃ v, rv = some (.long v)) ∨
  (I = .areturn ∧ ∃ V, rv = some V ∧ (V = .null ∨ ∃ a, V = .ref a) ∧ ∃ t, rt = some t ∧ ((∃ n, t = .object n) ∨ ∃ t2, t = .array t2)) ∨
  (I = .return_ ∧ rt = none ∧ rv = none)
def zMth (Ts : List Cond) (own : String) (i : Nat) (y : MethodName) (cd : ByteArray) : Prop := Cond.methodLink own i y ∈ Ts ∧ Cond.static y ∈ Ts ∧ Cond.initialized "java/lang/Math" ∈ Ts ∧ Cond.code y cd 2 (some .int) ∈ Ts
/-- what the tables say of a call -/
def zCal (mt : Nat → Option zM) (Ts : List Cond) (fr lo : Nat) (q n mx : Nat) (y : MethodName) (rt : Option FieldType) : Prop := ∃ by' f2 l2, q ≠ 0 ∧ mt q = some (y, by', mx, rt, f2, l2) ∧ f2 + 1 ≤ fr ∧ 8 + (mx + 11) + l2 ≤ lo ∧ (parseMethodDescriptor y.desc).map (fun d => d.parameters.length) = some n
def zIOK (mt : Nat → Option zM) (cl : List vw_C) (Ts : List Cond) (own : String) (ctor : Bool) (nL : Nat) (rt : Option FieldType) (fr lo : Nat) (cc : ByteArray) (pc : Nat) (I : Instr) (x : List Nat) (c : Int) : Prop := match I with
  | .nop => ∃ mm, x = pc :: mm
  | .goto off => decode cc pc = .ok (.goto off, 3) ∧ ∃ t mm, x = t :: mm ∧ (pc : Int) + off = (t : Int)
  | .ifCond cd off => decode cc pc = .ok (.ifCond cd off, 3) ∧ ∃ t mm, x = t :: mm ∧ (pc : Int) + off = (t : Int)
  | .if_icmp cd off => decode cc pc = .ok (.if_icmp cd off, 3) ∧ ∃ t mm, x = t :: mm ∧ (pc : Int) + off = (t : Int)
  | .ifnull off => decode cc pc = .ok (.ifnull off, 3) ∧ ∃ t mm, x = t :: mm ∧ (pc : Int) + off = (t : Int)
  | .ifnonnull off => decode cc pc = .ok (.ifnonnull off, 3) ∧ ∃ t mm, x = t :: mm ∧ (pc : Int) + off = (t : Int)
  | .tableswitch d lo hi offs => ∃ len, decode cc pc = .ok (.tableswitch d lo hi offs, len) ∧ ∃ n dt rest, x = n :: dt :: rest ∧ (pc : Int) + d = (dt : Int) ∧ ∀ (j t : Nat), (rest.drop n)[j]? = some t → ∃ off, offs[j]? = some off ∧ (pc : Int) + off = (t : Int)
  | .ireturn => decode cc pc = .ok (.ireturn, 1) ∧ ((x = [0] ∧ rt = some .int) ∨ (x = [1] ∧ rt = some .boolean))
  | .lreturn => decode cc pc = .ok (.lreturn, 1) ∧ rt = some .long
  | .areturn => decode cc pc = .ok (.areturn, 1) ∧ ∃ t, rt = some t ∧ ((∃ n, t = .object n) ∨ ∃ t2, t = .array t2)
  | .return_ => decode cc pc = .ok (.return_, 1) ∧ rt = none
  | .invokevirtual i => decode cc pc = .ok (.invokevirtual i, 3) ∧ ∃ q n t mx ci y r2 T N, x = [q, n + 1, t, mx, ci] ∧ zCal mt Ts fr lo q n mx y r2 ∧ cl[ci]? = some (y.cls, T, N) ∧ Cond.methodLink own i y ∈ Ts ∧ Cond.instanceMethod y ∈ Ts ∧ Cond.selects y.cls y y ∈ Ts
  | .invokestatic i => decode cc pc = .ok (.invokestatic i, 3) ∧ ((x = [0] ∧ zMth Ts own i Lib.Math.max.name Lib.Math.max.code ∧ 1 ≤ fr ∧ 21 ≤ lo) ∨ (x = [1] ∧ zMth Ts own i Lib.Math.min.name Lib.Math.min.code ∧ 1 ≤ fr ∧ 21 ≤ lo) ∨ ∃ q n t mx y r2, x = [q, n, t, mx] ∧ zCal mt Ts fr lo q n mx y r2 ∧ (Cond.methodLink own i y ∈ Ts ∨ ∃ host, Cond.methodLinkNest own i y host ∈ Ts) ∧ Cond.static y ∈ Ts)
  | .invokespecial i => decode cc pc = .ok (.invokespecial i, 3) ∧ ((x = [] ∧ Cond.methodLink own i Lib.objectInit ∈ Ts ∧ Cond.instanceMethod Lib.objectInit ∈ Ts ∧ Cond.code Lib.objectInit ⟨#[0xb1]⟩ 1 none ∈ Ts ∧ 1 ≤ fr ∧ 20 ≤ lo) ∨ (∃ q n t mx ci y T N, x = [q, n + 1, t, mx, ci] ∧ zCal mt Ts fr lo q n mx y none ∧ cl[ci]? = some (y.cls, T, N) ∧ (Cond.methodLink own i y ∈ Ts ∨ ∃ host, Cond.methodLinkNest own i y host ∈ Ts) ∧ Cond.instanceMethod y ∈ Ts ∧ y.name = "<init>"))
  | I => zOK cl Ts own ctor nL cc pc I x c
def zBK (mt : Nat → Option zM) (cl : List vw_C) (Ts : List Cond) (own : String) (ctor : Bool) (nL : Nat) (rt : Option FieldType) (fr lo : Nat) (cc : ByteArray) : Nat → List zE → Prop
  | _, [] => True
  | pc, (I, x, c) :: t => zIOK mt cl Ts own ctor nL rt fr lo cc pc I x c ∧ zBK mt cl Ts own ctor nL rt fr lo cc (pc + zlen I) t
def zProg (mt : Nat → Option zM) (B : Nat → Nat → Option (List zE)) (cl : List vw_C) (Ts : List Cond) : Prop := zTk Ts ∧ zCl cl Ts ∧ ∀ (M : Nat) (y : MethodName) (by' : ByteArray) (mL : Nat) (rt : Option FieldType) (fr lo : Nat), mt M = some (y, by', mL, rt, fr, lo) → (y.cls ≠ "java/lang/invoke/MethodHandle" ∧ y.cls ≠ "java/lang/invoke/VarHandle") ∧ plainName y.cls = true ∧ (M ≠ 0 → Cond.code y by' mL rt ∈ Ts ∧ Cond.initialized y.cls ∈ Ts) ∧ ∀ (pc : Nat) (b : List zE), B M pc = some b → zBK mt cl Ts y.cls (y.name == "<init>") mL rt fr lo by' pc b
/-- a method's contract, out of a reading -/
def zPc (Ts : List Cond) (cl : List vw_C) (D : va_G) (xs : List Int) (b : Nat) (tys : List (ClassId × FieldType)) (ws : va_W) (sz : Nat) (avs : List Value) : Array Value → State → Prop := va_Pc avs (fun U => U.heap.size = sz ∧ va_P D cl ws U.heap ∧ va_K D cl tys U ∧ va_D (fun _ => True) ws ∧ va_X b xs.length (zxf xs) U U.heap ∧ b < sz ∧ ¬ va_A ws sz b ∧ ∀ w ∈ Ts, zbad w → va_Nw w U)
def zQc (cl : List vw_C) (D : va_G) (ads : List Nat) (ws : va_W) (sz : Nat) (r : zR) : Array Value → State → Outcome → State → Prop := fun _ st oc t =>
  (∃ rv ads' tys' ws', oc = .returned rv ∧ zRet ads' r.1 rv ∧ zRep cl ads' tys' ws' r.2 ∧ zpre ads ads' ∧ va_P D cl ws' t.heap ∧ va_K D cl tys' t ∧ va_D (va_A ws sz) ws') ∧ va_F (va_A ws sz) st t
def zMet (l : Launch) (cl : List vw_C) (Ts : List Cond) (xs : List Int) (y : MethodName) (by' : ByteArray) (mL : Nat) (rt : Option FieldType) (fr lo : Nat) (vs : List zV) (h : zH) (r : zR) : Prop :=
  ∀ (D : va_G) (ads : List Nat) (b : Nat) (tys : List (ClassId × FieldType)) (ws : va_W) (sz : Nat) (avs : List Value), ads[0]? = some b → zRep cl ads tys ws h → zSt ads vs avs → (zargs vs).length ≤ mL →
    Met l y (Cond.code y by' mL rt :: Ts.filter goodWord) { frames := fr, cells := r.2.length - h.length, slots := zsz r.2 - zsz h, locals := lo } (zPc Ts cl D xs b tys ws sz avs) (zQc cl D ads ws sz r) (r.2.length - h.length) (zsz r.2 - zsz h) (va_A ws sz)
theorem zPc_blind {Ts : List Cond} {cl : List vw_C} {D : va_G} {xs : List Int} {b : Nat} {tys : List (ClassId × FieldType)} {ws : va_W} {sz : Nat} {avs : List Value} : FrameBlind (zPc Ts cl D xs b tys ws sz avs) := by
  rintro a U g mk ⟨h1, h2, h3, h4, h5, h6, h7, h8, h9⟩
  exact ⟨h1, h2, h3, va_K.moved (u := U) (U := U.calling g mk a) (Vm.Alike.refl U.vm) h4, h5, va_X.moved (u := U) (U := U.calling g mk a) (Vm.Alike.refl U.vm) h6, h7, h8, fun w hw hb => zbad_same (u := U) (U := U.calling g mk a) hb rfl (h9 w hw hb)⟩
section ZRUN
variable {p : Program} {l : Launch} {e : Env} {R : Room} {s : State} {m : MethodId} {args : Array Value} {below : List Frame} {meth : Method} {c : Code} {Q : State → Prop}
variable {cc : ByteArray} {nL : Nat} {own : String} {D : va_G} {cl : List vw_C} {A : Nat → Prop} {xs : List Int} {ads0 : List Nat} {n0 z0 : Nat} {Ts : List Cond} {ctor : Bool} {rt0 : Option FieldType}
theorem zAfter {H : Heap} {locs : List Loc} {cells slots mc ms : Nat} {pc : Nat} {ls : Array Slot} {sv rest : List Value} {ads : List Nat} {ws : va_W} {r : zR} {avs : Array Value}
    (hr : va_Run p l e R s m args below meth c H locs cells slots mc ms (F0 m pc ls sv) rest (zQc cl D ads ws H.size r avs) (va_A ws H.size)) (hA : ∀ q, s.heap.size ≤ q → A q) (hS : va_S A s.heap H locs) (hD : va_D A ws)
    (kk : ∀ (rv : Option Value) (ads' : List Nat) (tys' : List (ClassId × FieldType)) (ws' : va_W) (H1 : Heap) (locs1 : List Loc), zRet ads' r.1 rv → zRep cl ads' tys' ws' r.2 → zpre ads ads' → va_K D cl tys' s → va_P D cl ws' H1 → va_D A ws' → va_S A s.heap H1 locs1 → W p l e R s m args below meth c H1 locs1 (cells + mc) (slots + ms) Q (F0 m (pc + 3) ls (rv.toList ++ rest))) : W p l e R s m args below meth c H locs cells slots Q (F0 m pc ls sv) := by
  intro T hT X
  obtain ⟨v, st₀, t, T', L, h0, X', hL, e1, e2, ⟨⟨rv, ads', tys', ws', hv, hrv, hR, hp, hP, hK, hD1⟩, hz, hk⟩, st⟩ := hr T hT X
  cases hv
  rw [h0] at hz hk
  have hf : ∀ q, va_A ws H.size q → A q := fun q hq => by
    rcases hq with ⟨k, ee, hq⟩ | hq
    · exact hD.2 k _ hq
    · exact hA q (Nat.le_trans hS.1 hq)
  obtain ⟨t2, a1, b1⟩ := kk v ads' tys' ws' T'.heap (locs ++ L) hrv hR hp (hK.moved (by rw [← e2]; exact X'.warmed.alike.symm)) (by rw [e1]; exact hP) (hD1.weaken (fun k q _ h => hf q.1 h))
    ⟨Nat.le_trans hS.1 (by rw [e1]; exact hz), fun q h1 h2 => by rw [e1, hk q (Nat.lt_of_lt_of_le h1 hS.1) (fun z => h2 (hf q z))]; exact hS.2.1 q h1 h2, fun q hq => by
      rcases List.mem_append.mp hq with h | h
      · exact hS.2.2 q h
      · exact hf _ (hL q h)⟩ T' rfl X'
  exact ⟨t2, st t2 a1, b1⟩
/-- what comes behind a call -/
theorem zY_sim {pc : Nat} {t : Nat} {o : Option zR} {L : zL} {st : List zV} {k : zL → List zV → zH → Option zR} {res : zR}
    (hk : ∀ L' st' h', k L' st' h' = some res → zSim p l e R s m args below meth c Q nL D cl A ads0 n0 z0 (pc + 3) L' st' h') (q : zY t o L st k = some res) :
    ∃ r1, o = some r1 ∧ (∃ st', k L st' r1.2 = some res) ∧ ∀ (ls : Array Slot) (rest : List Value) (rv : Option Value) (H : Heap) (locs : List Loc) (cells slots : Nat) (ads : List Nat) (tys : List (ClassId × FieldType)) (ws : va_W), zRet ads r1.1 rv → zLo ads nL L ls → zSt ads st rest → zRep cl ads tys ws r1.2 → zpre ads0 ads → va_K D cl tys s → va_P D cl ws H → va_D A ws → va_S A s.heap H locs → cells + n0 = r1.2.length → slots + z0 = zsz r1.2 → W p l e R s m args below meth c H locs cells slots Q (F0 m (pc + 3) ls (rv.toList ++ rest)) := by
  cases o with
  | none => rcases t with _ | _ | _ | _ | t <;> cases q
  | some r1 =>
    obtain ⟨v, h1⟩ := r1
    refine ⟨(v, h1), rfl, ?_⟩
    rcases t with _ | _ | _ | _ | t <;> rcases v with _ | v | v | v <;> simp only [zY, zcv, zci, zcl, zcr] at q <;> first
      | (cases q; done)
      | (refine ⟨⟨_, q⟩, fun ls rest rv H locs cells slots ads tys ws hrv hL hst hR hpre hK hP hD hS hn hz => ?_⟩
         cases hrv
         exact hk _ _ _ q _ _ _ _ _ _ _ _ _ hL hst hR hpre hK hP hD hS hn hz)
      | (refine ⟨⟨_, q⟩, fun ls rest rv H locs cells slots ads tys ws hrv hL hst hR hpre hK hP hD hS hn hz => ?_⟩
         obtain ⟨V, rfl, hV⟩ := hrv
         exact hk _ _ _ q _ _ _ _ _ _ _ _ _ hL ⟨hV, hst⟩ hR hpre hK hP hD hS hn hz)
/-- where a method ends -/
def zFin (p : Program) (l : Launch) (e : Env) (R : Room) (s : State) (m : MethodId) (args : Array Value) (below : List Frame) (meth : Method) (c : Code) (Q : State → Prop) (cc : ByteArray) (rt : Option FieldType) (D : va_G) (cl : List vw_C) (A : Nat → Prop) (ads0 : List Nat) (n0 z0 : Nat) (res : zR) : Prop :=
  ∀ (pc : Nat) (I : Instr) (ls : Array Slot) (rv : Option Value) (H : Heap) (locs : List Loc) (cells slots : Nat) (ads : List Nat) (tys : List (ClassId × FieldType)) (ws : va_W), decode cc pc = .ok (I, 1) → zRI I rt rv → zRet ads res.1 rv → zRep cl ads tys ws res.2 → zpre ads0 ads → va_K D cl tys s → va_P D cl ws H → va_D A ws → va_S A s.heap H locs → cells + n0 = res.2.length → slots + z0 = zsz res.2 → W p l e R s m args below meth c H locs cells slots Q (F0 m pc ls rv.toList)
theorem zPre_of {H : Heap} {locs : List Loc} {tys : List (ClassId × FieldType)} {ws : va_W} {b : Nat} {avs : List Value} (hts : ∀ w ∈ Ts, w.before args s = true) (hX : va_X b xs.length (zxf xs) s s.heap) (hbl : b < s.heap.size) (hbA : ¬ A b) (hA : ∀ q, s.heap.size ≤ q → A q) (hK : va_K D cl tys s) (hP : va_P D cl ws H) (hD : va_D A ws) (hS : va_S A s.heap H locs) (U : State) (hU : U.heap = H) (hW : s.WarmedH U.vm) : zPc Ts cl D xs b tys ws H.size avs avs.toArray U := by
  refine ⟨rfl, by rw [hU], by rw [hU]; exact hP, va_K.moved hW.alike hK, hD.weaken (fun _ _ _ _ => trivial), ?_, Nat.lt_of_lt_of_le hbl hS.1, ?_, fun w hw hb => zbad_warm hb hW (zbad_of hb (hts w hw))⟩
  · rw [hU]
    exact va_X.moved hW.alike (hX.kept (hS.2.1 b hbl hbA))
  · rintro (⟨k, ee, hq⟩ | hq)
    · exact hbA (hD.2 k _ hq)
    · exact absurd (Nat.lt_of_lt_of_le hbl hS.1) (by omega)
theorem zck_some {h : zH} {rr : Option Nat} {ci : Nat} {o : Option zR} {res : zR} (q : zck h rr ci o = some res) : ∃ p c, rr = some (p + 1) ∧ h[p]? = some c ∧ c.1 = ci ∧ o = some res := by
  rcases rr with _ | _ | p
  · cases q
  · cases q
  · unfold zck at q
    dsimp only at q
    cases hc : h[p]? with
    | none => rw [hc] at q; cases q
    | some c =>
      rw [hc] at q
      dsimp only at q
      split at q
      next he => exact ⟨p, c, rfl, hc, he, q⟩
      next => cases q
/-- the receiver under a call's arguments -/
theorem zRecv {ads : List Nat} {tys : List (ClassId × FieldType)} {ws : va_W} {st : List zV} {sv : List Value} {h : zH} {n p' : Nat} {c' : Nat × List zV} (hst : zSt ads st sv) (c1 : n + 1 ≤ st.length) (hR : zRep cl ads tys ws h) (e1 : zrcv (st.take (n + 1)).reverse = some (p' + 1)) (e2 : h[p']? = some c') (ht : c'.1 < 100) :
    ∃ a As fs, ads[p' + 1]? = some a ∧ zSt ads (st.take (n + 1)).reverse (.ref a :: As) ∧ zSt ads (st.drop (n + 1)) (sv.drop (n + 1)) ∧ sv = As.reverse ++ .ref a :: sv.drop (n + 1) ∧ As.length = n ∧ ws[p']? = some (a, .inr (c'.1, fs)) := by
  have hst1 : zSt ads (st.take (n + 1)).reverse (sv.take (n + 1)).reverse := zSt_rev (zSt_take (n + 1) hst).1
  have hst2 := (zSt_take (n + 1) hst).2
  have hlen : (sv.take (n + 1)).reverse.length = n + 1 := by rw [List.length_reverse, List.length_take, zSt_len hst]; omega
  have hsv : sv = (sv.take (n + 1)).reverse.reverse ++ sv.drop (n + 1) := by rw [List.reverse_reverse, List.take_append_drop]
  generalize (st.take (n + 1)).reverse = vs at hst1 e1 ⊢
  generalize (sv.take (n + 1)).reverse = avs at hst1 hlen hsv
  rcases vs with _ | ⟨v, vs⟩
  · cases e1
  rcases avs with _ | ⟨V, As⟩
  · exact hst1.elim
  rcases v with v | v | v
  · cases e1
  · cases e1
  · cases e1
    obtain ⟨⟨a, ha, rfl⟩, h2⟩ := hst1
    obtain ⟨fs, he, -⟩ := zRep_obj hR e2 ht ha
    refine ⟨a, As, fs, ha, ⟨⟨a, ha, rfl⟩, h2⟩, hst2, ?_, by simpa using hlen, he⟩
    rw [List.reverse_cons, List.append_assoc] at hsv
    exact hsv
theorem zX_sim {mt : Nat → Option zM} {rec : Nat → Nat → zL → List zV → zH → Option zR} {fr lo : Nat} (hG : zTk Ts) (hMt : ∀ (q : Nat) (y : MethodName) (by' : ByteArray) (mL : Nat) (rt : Option FieldType) (fr lo : Nat), q ≠ 0 → mt q = some (y, by', mL, rt, fr, lo) → (y.cls ≠ "java/lang/invoke/MethodHandle" ∧ y.cls ≠ "java/lang/invoke/VarHandle") ∧ Cond.code y by' mL rt ∈ Ts ∧ Cond.initialized y.cls ∈ Ts)
    (hMet : ∀ (q : Nat) (y : MethodName) (by' : ByteArray) (mL : Nat) (rt : Option FieldType) (fr lo : Nat) (vs : List zV) (h : zH) (r : zR), mt q = some (y, by', mL, rt, fr, lo) → rec q 0 (zargs vs) [] h = some r → zMet l cl Ts xs y by' mL rt fr lo vs h r)
    (hgr : ∀ m pc L st h r, rec m pc L st h = some r → zge h r.2)
    (C0 : zCtx p s m args meth c cc nL own ctor cl A xs ads0 Ts) (hfr : fr ≤ R.frames) (hlo : lo ≤ R.locals) {pc : Nat} {I : Instr} {x : List Nat} {cv : Int} {L : zL} {st : List zV} {h : zH} {k : zL → List zV → zH → Option zR} {res : zR} (ok : zIOK mt cl Ts own ctor nL rt0 fr lo cc pc I x cv)
    (hI : (∃ i, I = .invokevirtual i) ∨ (∃ i, I = .invokestatic i ∧ x ≠ [0] ∧ x ≠ [1]) ∨ ∃ i, I = .invokespecial i ∧ x ≠ [])
    (hk : ∀ L' st' h', k L' st' h' = some res → zSim p l e R s m args below meth c Q nL D cl A ads0 n0 z0 (pc + 3) L' st' h') (hr : ∀ L' st' h', k L' st' h' = some res → h'.length ≤ R.cells + n0 ∧ zsz h' ≤ R.slots + z0)
    (q : zX rec x L st h k = some res) : zSim p l e R s m args below meth c Q nL D cl A ads0 n0 z0 pc L st h := by
  intro ls sv H locs cells slots ads tys ws hL hst hR hpre hK hP hD hS hn hz
  obtain ⟨hx, hb, hml, hts, hown, hA, hcl, hct, b, hb0, hX, hbl, hbA⟩ := C0
  have hb1 := hpre _ _ hb0
  -- the callee's words
  have words : ∀ (y : MethodName) (by' : ByteArray) (mL : Nat) (rt : Option FieldType), Cond.code y by' mL rt ∈ Ts → GoodIn Ts (Cond.code y by' mL rt :: Ts.filter goodWord) := fun y by' mL rt hc w hw => by
    rcases List.mem_cons.mp hw with rfl | hw
    · refine ⟨hc, (hG _ hc).elim good_of_word (fun hb => ?_)⟩
      rcases hb with ⟨a, i, x, h, hb⟩ | ⟨C, hb⟩ <;> cases hb
    · obtain ⟨h1, h2⟩ := List.mem_filter.mp hw
      exact ⟨h1, good_of_word h2⟩
  -- the run of a callee, and what comes behind it
  have go : ∀ (qm n t mx : Nat) (y : MethodName) (rt : Option FieldType) (rest : List Value) (avs : List Value), zSt ads (st.drop n) rest → zSt ads (st.take n).reverse avs → (zargs (st.take n).reverse).length ≤ mx →
      (∀ (by' : ByteArray) (f2 l2 : Nat) (r1 : zR), mt qm = some (y, by', mx, rt, f2, l2) → r1.2.length ≤ R.cells + n0 → zsz r1.2 ≤ R.slots + z0 → zge h r1.2 → zMet l cl Ts xs y by' mx rt f2 l2 (st.take n).reverse h r1 → va_Run p l e R s m args below meth c H locs cells slots (r1.2.length - h.length) (zsz r1.2 - zsz h) (F0 m pc ls sv) rest (zQc cl D ads ws H.size r1 avs.toArray) (va_A ws H.size)) →
      (∃ by' f2 l2, mt qm = some (y, by', mx, rt, f2, l2)) → zY t (rec qm 0 (zargs (st.take n).reverse) [] h) L (st.drop n) k = some res → W p l e R s m args below meth c H locs cells slots Q (F0 m pc ls sv) := by
    intro qm n t mx y rt rest avs hrest havs hlen run ⟨by', f2, l2, hm⟩ qy
    obtain ⟨r1, h1, ⟨st', h2⟩, h3⟩ := zY_sim hk qy
    obtain ⟨g1, g2⟩ := hr _ _ _ h2
    have hge := hgr _ _ _ _ _ _ h1
    have hM := hMet qm y by' mx rt f2 l2 (st.take n).reverse h r1 hm h1
    refine zAfter (run by' f2 l2 r1 hm g1 g2 hge hM) hA hS hD (fun rv ads' tys' ws' H1 locs1 hrv hR1 hp1 hK1 hP1 hD1 hS1 => ?_)
    exact h3 ls rest rv H1 locs1 _ _ ads' tys' ws' hrv (zLo_pre hp1 hL) (zSt_pre hp1 hrest) hR1 (zpre_tr hpre hp1) hK1 hP1 hD1 hS1 (by have := hge.1; omega) (by have := hge.2; omega)
  have cats : ∀ (n : Nat) (rest : List Value), zSt ads (st.drop n) rest → zcs (st.drop n) ≤ 8 → (rest.map fun v => v.category).sum ≤ 8 := fun n rest h1 h2 => by
    rw [zSt_cat h1]
    exact h2
  rcases hI with ⟨i, rfl⟩ | ⟨i, rfl, hx1, hx2⟩ | ⟨i, rfl, hx0⟩
  · obtain ⟨hd, qm, n, t, mx, ci, y, r2, T, N, rfl, ⟨by', f2, l2, hq0, hm, hf1, hl1, hnp⟩, hc, w1, w2, w3⟩ := ok
    obtain ⟨hy, hcode, hini⟩ := hMt qm y by' mx r2 f2 l2 hq0 hm
    simp only [zX] at q
    split at q
    next hcond =>
      obtain ⟨c1, c2, c3⟩ := hcond
      obtain ⟨p', c', e1, e2, e3, q⟩ := zck_some q
      obtain ⟨a, As, fs, ha, hst1, hst2, hsv, hAs, he⟩ := zRecv hst c1 hR e1 e2 (by rw [e3]; exact (hcl ci _ _ _ hc).2.2.2.2.2)
      rw [e3] at he
      refine go qm (n + 1) t mx y r2 (sv.drop (n + 1)) (.ref a :: As) hst2 hst1 c3 (fun by2 f3 l3 r1 hm2 g1 g2 hge hM => ?_) ⟨by', f2, l2, hm⟩ q
      cases hm.symm.trans hm2
      exact va_runV (As := As) (rest := sv.drop (n + 1)) ⟨hx, hb, hml, hown, hts⟩ (hM D ads b tys ws H.size (.ref a :: As) hb1 hR hst1 c3) (C := y.cls)
        ⟨callB_of n hts (words _ _ _ _ hcode) rfl rfl rfl (hts _ hini) (hts _ w1) ⟨hy.1, hy.2, hnp⟩ ⟨by show f2 + 1 ≤ _; omega, by show 8 + (mx + 11) + l2 ≤ _; omega⟩, hts _ w2, hts _ w3⟩
        ⟨zPc_blind, va_recv hK hP hc he, zPre_of hts hX hbl hbA hA hK hP hD hS⟩ rfl hAs hL.1 hsv (lv_room (cats _ _ hst2 c2)) hd ⟨by have := hge.1; omega, by have := hge.2; omega⟩
    next => cases q
  · obtain ⟨hd, ⟨hbad, -⟩ | ⟨hbad, -⟩ | ⟨qm, n, t, mx, y, r2, rfl, ⟨by', f2, l2, hq0, hm, hf1, hl1, hnp⟩, w1, w2⟩⟩ := ok
    · exact absurd hbad hx1
    · exact absurd hbad hx2
    obtain ⟨hy, hcode, hini⟩ := hMt qm y by' mx r2 f2 l2 hq0 hm
    simp only [zX] at q
    split at q
    next hcond =>
      obtain ⟨c1, c2, c3⟩ := hcond
      have hst1 : zSt ads (st.take n).reverse (sv.take n).reverse := zSt_rev (zSt_take n hst).1
      have hst2 := (zSt_take n hst).2
      have hAs : (sv.take n).reverse.length = n := by rw [List.length_reverse, List.length_take, zSt_len hst]; omega
      refine go qm n t mx y r2 (sv.drop n) (sv.take n).reverse hst2 hst1 c3 (fun by2 f3 l3 r1 hm2 g1 g2 hge hM => ?_) ⟨by', f2, l2, hm⟩ q
      cases hm.symm.trans hm2
      have hsv : sv = (sv.take n).reverse.reverse ++ sv.drop n := by rw [List.reverse_reverse, List.take_append_drop]
      rcases w1 with w1 | ⟨host, w1⟩
      · exact va_runS (As := (sv.take n).reverse) (rest := sv.drop n) ⟨hx, hb, hml, hown, hts⟩ (hM D ads b tys ws H.size _ hb1 hR hst1 c3)
          ⟨callB_of n hts (words _ _ _ _ hcode) rfl rfl rfl (hts _ hini) (hts _ w1) ⟨hy.1, hy.2, hnp⟩ ⟨by show f2 + 1 ≤ _; omega, by show 8 + (mx + 11) + l2 ≤ _; omega⟩, hts _ w2⟩
          ⟨zPc_blind, zPre_of hts hX hbl hbA hA hK hP hD hS⟩ rfl hAs hL.1 hsv (lv_room (cats _ _ hst2 c2)) hd ⟨by have := hge.1; omega, by have := hge.2; omega⟩
      · exact va_runSN (As := (sv.take n).reverse) (rest := sv.drop n) ⟨hx, hb, hml, hown, hts⟩ (hM D ads b tys ws H.size _ hb1 hR hst1 c3)
          ⟨va_cnB n hts (words _ _ _ _ hcode) rfl rfl rfl (va_Nw.of rfl (hts _ w1)) (hts _ hini) ⟨hy.1, hy.2, hnp⟩ ⟨by show f2 + 1 ≤ _; omega, by show 8 + (mx + 11) + l2 ≤ _; omega⟩, hts _ w2, trivial⟩
          ⟨zPc_blind, zPre_of hts hX hbl hbA hA hK hP hD hS⟩ rfl hAs hL.1 hsv (lv_room (cats _ _ hst2 c2)) hd ⟨by have := hge.1; omega, by have := hge.2; omega⟩
    next => cases q
  · obtain ⟨hd, ⟨hbad, -⟩ | ⟨qm, n, t, mx, ci, y, T, N, rfl, ⟨by', f2, l2, hq0, hm, hf1, hl1, hnp⟩, hc, w1, w2, w3⟩⟩ := ok
    · exact absurd hbad hx0
    obtain ⟨hy, hcode, hini⟩ := hMt qm y by' mx none f2 l2 hq0 hm
    simp only [zX] at q
    split at q
    next hcond =>
      obtain ⟨c1, c2, c3⟩ := hcond
      obtain ⟨p', c', e1, e2, e3, q⟩ := zck_some q
      obtain ⟨a, As, fs, ha, hst1, hst2, hsv, hAs, he⟩ := zRecv hst c1 hR e1 e2 (by rw [e3]; exact (hcl ci _ _ _ hc).2.2.2.2.2)
      refine go qm (n + 1) t mx y none (sv.drop (n + 1)) (.ref a :: As) hst2 hst1 c3 (fun by2 f3 l3 r1 hm2 g1 g2 hge hM => ?_) ⟨by', f2, l2, hm⟩ q
      cases hm.symm.trans hm2
      rcases w1 with w1 | ⟨host, w1⟩
      · exact va_runI (As := As) (rest := sv.drop (n + 1)) ⟨hx, hb, hml, hown, hts⟩ (hM D ads b tys ws H.size (.ref a :: As) hb1 hR hst1 c3)
          (cwI n hts (words _ _ _ _ hcode) rfl rfl rfl (hts _ hini) (hts _ w1) (hts _ w2) w3 ⟨hy.1, hy.2, hnp⟩ ⟨by show f2 + 1 ≤ _; omega, by show 8 + (mx + 11) + l2 ≤ _; omega⟩)
          ⟨zPc_blind, zPre_of hts hX hbl hbA hA hK hP hD hS⟩ rfl hAs hL.1 hsv (lv_room (cats _ _ hst2 c2)) hd ⟨by have := hge.1; omega, by have := hge.2; omega⟩
      · exact va_runIN (As := As) (rest := sv.drop (n + 1)) ⟨hx, hb, hml, hown, hts⟩ (hM D ads b tys ws H.size (.ref a :: As) hb1 hR hst1 c3)
          ⟨va_cnB n hts (words _ _ _ _ hcode) rfl rfl rfl (va_Nw.of rfl (hts _ w1)) (hts _ hini) ⟨hy.1, hy.2, hnp⟩ ⟨by show f2 + 1 ≤ _; omega, by show 8 + (mx + 11) + l2 ≤ _; omega⟩, w3, hts _ w2⟩
          ⟨zPc_blind, zPre_of hts hX hbl hbA hA hK hP hD hS⟩ rfl hAs hL.1 hsv (lv_room (cats _ _ hst2 c2)) hd ⟨by have := hge.1; omega, by have := hge.2; omega⟩
    next => cases q
theorem zJ_sim {rec : Nat → zL → List zV → zH → Option zR} {res : zR} (hJ : ∀ pc L st h, rec pc L st h = some res → zSim p l e R s m args below meth c Q nL D cl A ads0 n0 z0 pc L st h) {t : Nat} {mm : List Nat} {L : zL} {st : List zV} {h : zH} (q : zJ rec (t :: mm) L st h = some res) : zSim p l e R s m args below meth c Q nL D cl A ads0 n0 z0 t L st h := by
  intro ls sv H locs cells slots ads tys ws hL hst hR hpre hK hP hD hS hn hz
  exact hJ _ _ _ _ q _ _ _ _ _ _ _ _ _ (zLo_keep hL mm) hst hR hpre hK hP hD hS hn hz
theorem zI_sim {mt : Nat → Option zM} {rec : Nat → Nat → zL → List zV → zH → Option zR} {M fr lo : Nat} (hG : zTk Ts) (hMt : ∀ (q : Nat) (y : MethodName) (by' : ByteArray) (mL : Nat) (rt : Option FieldType) (fr lo : Nat), q ≠ 0 → mt q = some (y, by', mL, rt, fr, lo) → (y.cls ≠ "java/lang/invoke/MethodHandle" ∧ y.cls ≠ "java/lang/invoke/VarHandle") ∧ Cond.code y by' mL rt ∈ Ts ∧ Cond.initialized y.cls ∈ Ts)
    (hMet : ∀ (q : Nat) (y : MethodName) (by' : ByteArray) (mL : Nat) (rt : Option FieldType) (fr lo : Nat) (vs : List zV) (h : zH) (r : zR), mt q = some (y, by', mL, rt, fr, lo) → rec q 0 (zargs vs) [] h = some r → zMet l cl Ts xs y by' mL rt fr lo vs h r)
    (hgr : ∀ m pc L st h r, rec m pc L st h = some r → zge h r.2)
    (C0 : zCtx p s m args meth c cc nL own ctor cl A xs ads0 Ts) (hfr : fr ≤ R.frames) (hlo : lo ≤ R.locals) {res : zR} (hJ : ∀ pc L st h, rec M pc L st h = some res → zSim p l e R s m args below meth c Q nL D cl A ads0 n0 z0 pc L st h) (hF : zFin p l e R s m args below meth c Q cc rt0 D cl A ads0 n0 z0 res)
    {pc : Nat} {I : Instr} {x : List Nat} {cv : Int} {L : zL} {st : List zV} {h : zH} {k : zL → List zV → zH → Option zR} (ok : zIOK mt cl Ts own ctor nL rt0 fr lo cc pc I x cv)
    (hk : ∀ L' st' h', k L' st' h' = some res → zSim p l e R s m args below meth c Q nL D cl A ads0 n0 z0 (pc + zlen I) L' st' h') (hr : ∀ L' st' h', k L' st' h' = some res → h'.length ≤ R.cells + n0 ∧ zsz h' ≤ R.slots + z0)
    (q : zI xs rec M I x cv L st h k = some res) : zSim p l e R s m args below meth c Q nL D cl A ads0 n0 z0 pc L st h := by
  obtain ⟨J, hJ0⟩ : ∃ J, J = I := ⟨I, rfl⟩
  cases I
  case nop =>
    obtain ⟨mm, rfl⟩ := ok
    exact zJ_sim hJ q
  case goto off =>
    obtain ⟨hd, t, mm, rfl, ht⟩ := ok
    obtain ⟨hx, hb, -⟩ := C0
    intro ls sv H locs cells slots ads tys ws hL hst hR hpre hK hP hD hS hn hz
    exact lv_goto hx hb hd ht (zJ_sim hJ q _ _ _ _ _ _ _ _ _ hL hst hR hpre hK hP hD hS hn hz)
  case ifCond cnd off =>
    obtain ⟨hd, t, mm, rfl, ht⟩ := ok
    obtain ⟨hx, hb, -⟩ := C0
    intro ls sv H locs cells slots ads tys ws hL hst hR hpre hK hP hD hS hn hz
    cases cnd <;> rcases st with _ | ⟨a | a | a, st⟩ <;> first | (cases q; done) | skip
    all_goals
      obtain ⟨T1, rfl, hst1⟩ := zSt_i hst
      simp only [zI] at q
    · exact lv_if_eq hx hb hd ht (fun z => by rw [if_pos ((zw_eq0 a).mp z)] at q; exact zJ_sim hJ q _ _ _ _ _ _ _ _ _ hL hst1 hR hpre hK hP hD hS hn hz) (fun z => by rw [if_neg (fun z' => z ((zw_eq0 a).mpr z'))] at q; exact hk _ _ _ q _ _ _ _ _ _ _ _ _ hL hst1 hR hpre hK hP hD hS hn hz)
    · exact lv_if_ne hx hb hd ht (fun z => by rw [if_pos (fun z' => z ((zw_eq0 a).mpr z'))] at q; exact zJ_sim hJ q _ _ _ _ _ _ _ _ _ hL hst1 hR hpre hK hP hD hS hn hz) (fun z => by rw [if_neg (fun z' => z' ((zw_eq0 a).mp z))] at q; exact hk _ _ _ q _ _ _ _ _ _ _ _ _ hL hst1 hR hpre hK hP hD hS hn hz)
    · exact lv_if_lt hx hb hd ht (fun z => by rw [if_pos ((zw_lt0 a).mp z)] at q; exact zJ_sim hJ q _ _ _ _ _ _ _ _ _ hL hst1 hR hpre hK hP hD hS hn hz) (fun z => by rw [if_neg (fun z' => z ((zw_lt0 a).mpr z'))] at q; exact hk _ _ _ q _ _ _ _ _ _ _ _ _ hL hst1 hR hpre hK hP hD hS hn hz)
    · exact lv_if_ge hx hb hd ht (fun z => by rw [if_pos ((zw_ge0 a).mp z)] at q; exact zJ_sim hJ q _ _ _ _ _ _ _ _ _ hL hst1 hR hpre hK hP hD hS hn hz) (fun z => by rw [if_neg (fun z' => z ((zw_ge0 a).mpr z'))] at q; exact hk _ _ _ q _ _ _ _ _ _ _ _ _ hL hst1 hR hpre hK hP hD hS hn hz)
    · exact lv_if_gt hx hb hd ht (fun z => by rw [if_pos ((zw_gt0 a).mp z)] at q; exact zJ_sim hJ q _ _ _ _ _ _ _ _ _ hL hst1 hR hpre hK hP hD hS hn hz) (fun z => by rw [if_neg (fun z' => z ((zw_gt0 a).mpr z'))] at q; exact hk _ _ _ q _ _ _ _ _ _ _ _ _ hL hst1 hR hpre hK hP hD hS hn hz)
    · exact lv_if_le hx hb hd ht (fun z => by rw [if_pos ((zw_le0 a).mp z)] at q; exact zJ_sim hJ q _ _ _ _ _ _ _ _ _ hL hst1 hR hpre hK hP hD hS hn hz) (fun z => by rw [if_neg (fun z' => z ((zw_le0 a).mpr z'))] at q; exact hk _ _ _ q _ _ _ _ _ _ _ _ _ hL hst1 hR hpre hK hP hD hS hn hz)
  case if_icmp cnd off =>
    obtain ⟨hd, t, mm, rfl, ht⟩ := ok
    obtain ⟨hx, hb, -⟩ := C0
    intro ls sv H locs cells slots ads tys ws hL hst hR hpre hK hP hD hS hn hz
    cases cnd <;> rcases st with _ | ⟨b | b | b, _ | ⟨a | a | a, st⟩⟩ <;> first | (cases q; done) | skip
    all_goals
      obtain ⟨T1, rfl, hst1⟩ := zSt_i hst
      obtain ⟨T2, rfl, hst2⟩ := zSt_i hst1
      simp only [zI] at q
    · exact lv_icmp_eq hx hb hd ht (fun z => by rw [if_pos ((zw_eq a b).mp z)] at q; exact zJ_sim hJ q _ _ _ _ _ _ _ _ _ hL hst2 hR hpre hK hP hD hS hn hz) (fun z => by rw [if_neg (fun z' => z ((zw_eq a b).mpr z'))] at q; exact hk _ _ _ q _ _ _ _ _ _ _ _ _ hL hst2 hR hpre hK hP hD hS hn hz)
    · exact lv_icmp_ne hx hb hd ht (fun z => by rw [if_pos (fun z' => z ((zw_eq a b).mpr z'))] at q; exact zJ_sim hJ q _ _ _ _ _ _ _ _ _ hL hst2 hR hpre hK hP hD hS hn hz) (fun z => by rw [if_neg (fun z' => z' ((zw_eq a b).mp z))] at q; exact hk _ _ _ q _ _ _ _ _ _ _ _ _ hL hst2 hR hpre hK hP hD hS hn hz)
    · exact lv_icmp_lt hx hb hd ht (fun z => by rw [if_pos ((zw_lt a b).mp z)] at q; exact zJ_sim hJ q _ _ _ _ _ _ _ _ _ hL hst2 hR hpre hK hP hD hS hn hz) (fun z => by rw [if_neg (fun z' => z ((zw_lt a b).mpr z'))] at q; exact hk _ _ _ q _ _ _ _ _ _ _ _ _ hL hst2 hR hpre hK hP hD hS hn hz)
    · exact lv_icmp_ge hx hb hd ht (fun z => by rw [if_pos ((zw_le b a).mp z)] at q; exact zJ_sim hJ q _ _ _ _ _ _ _ _ _ hL hst2 hR hpre hK hP hD hS hn hz) (fun z => by rw [if_neg (fun z' => z ((zw_le b a).mpr z'))] at q; exact hk _ _ _ q _ _ _ _ _ _ _ _ _ hL hst2 hR hpre hK hP hD hS hn hz)
    · exact lv_icmp_gt hx hb hd ht (fun z => by rw [if_pos ((zw_lt b a).mp z)] at q; exact zJ_sim hJ q _ _ _ _ _ _ _ _ _ hL hst2 hR hpre hK hP hD hS hn hz) (fun z => by rw [if_neg (fun z' => z ((zw_lt b a).mpr z'))] at q; exact hk _ _ _ q _ _ _ _ _ _ _ _ _ hL hst2 hR hpre hK hP hD hS hn hz)
    · exact lv_icmp_le hx hb hd ht (fun z => by rw [if_pos ((zw_le a b).mp z)] at q; exact zJ_sim hJ q _ _ _ _ _ _ _ _ _ hL hst2 hR hpre hK hP hD hS hn hz) (fun z => by rw [if_neg (fun z' => z ((zw_le a b).mpr z'))] at q; exact hk _ _ _ q _ _ _ _ _ _ _ _ _ hL hst2 hR hpre hK hP hD hS hn hz)
  case ifnull off =>
    obtain ⟨hd, t, mm, rfl, ht⟩ := ok
    obtain ⟨hx, hb, -⟩ := C0
    intro ls sv H locs cells slots ads tys ws hL hst hR hpre hK hP hD hS hn hz
    rcases st with _ | ⟨a | a | (_ | a), st⟩ <;> first | (cases q; done) | skip
    · obtain ⟨V, T1, rfl, hV, hst1⟩ := zSt_r hst
      cases hV
      exact lv_ifnullN hx hb hd ht (zJ_sim hJ q _ _ _ _ _ _ _ _ _ hL hst1 hR hpre hK hP hD hS hn hz)
    · obtain ⟨V, T1, rfl, hV, hst1⟩ := zSt_r hst
      obtain ⟨a1, -, rfl⟩ := hV
      exact lv_ifnull hx hb hd (hk _ _ _ q _ _ _ _ _ _ _ _ _ hL hst1 hR hpre hK hP hD hS hn hz)
  case ifnonnull off =>
    obtain ⟨hd, t, mm, rfl, ht⟩ := ok
    obtain ⟨hx, hb, -⟩ := C0
    intro ls sv H locs cells slots ads tys ws hL hst hR hpre hK hP hD hS hn hz
    rcases st with _ | ⟨a | a | (_ | a), st⟩ <;> first | (cases q; done) | skip
    · obtain ⟨V, T1, rfl, hV, hst1⟩ := zSt_r hst
      cases hV
      exact lv_ifnonnullN hx hb hd (hk _ _ _ q _ _ _ _ _ _ _ _ _ hL hst1 hR hpre hK hP hD hS hn hz)
    · obtain ⟨V, T1, rfl, hV, hst1⟩ := zSt_r hst
      obtain ⟨a1, -, rfl⟩ := hV
      exact lv_ifnonnull hx hb hd ht (zJ_sim hJ q _ _ _ _ _ _ _ _ _ hL hst1 hR hpre hK hP hD hS hn hz)
  case tableswitch d2 lo2 hi2 offs =>
    obtain ⟨len, hd, n, dt, rest, rfl, hdt, htg⟩ := ok
    obtain ⟨hx, hb, -⟩ := C0
    intro ls sv H locs cells slots ads tys ws hL hst hR hpre hK hP hD hS hn hz
    rcases st with _ | ⟨a | a | a, st⟩ <;> first | (cases q; done) | skip
    obtain ⟨T1, rfl, hst1⟩ := zSt_i hst
    simp only [zI] at q
    split at q
    next hc => exact lv_tableOut hx hb hd (by rw [zw_toInt]; exact hc) hdt (hJ _ _ _ _ q _ _ _ _ _ _ _ _ _ (zLo_keep hL _) hst1 hR hpre hK hP hD hS hn hz)
    next hc =>
      cases htt : (rest.drop n)[(zw a - lo2).toNat]? with
      | none => rw [htt] at q; cases q
      | some t =>
        rw [htt] at q
        obtain ⟨off, ho1, ho2⟩ := htg _ _ htt
        exact lv_tableIn hx hb hd (by rw [zw_toInt]; omega) (by rw [zw_toInt]; omega) (by rw [zw_toInt]; exact ho1) ho2 (hJ _ _ _ _ q _ _ _ _ _ _ _ _ _ (zLo_keep hL _) hst1 hR hpre hK hP hD hS hn hz)
  case ireturn =>
    obtain ⟨hd, ⟨rfl, hrt⟩ | ⟨rfl, hrt⟩⟩ := ok
    · intro ls sv H locs cells slots ads tys ws hL hst hR hpre hK hP hD hS hn hz
      rcases st with _ | ⟨a | a | a, _ | ⟨b, st⟩⟩ <;> first | (cases q; done) | skip
      cases q
      obtain ⟨T1, rfl, hst1⟩ := zSt_i hst
      rcases T1 with _ | ⟨V, T1⟩
      · exact hF pc _ ls (some (.int (Int32.ofInt a))) H locs cells slots ads tys ws hd (Or.inl ⟨rfl, _, rfl, Or.inl hrt⟩) ⟨_, rfl, rfl⟩ hR hpre hK hP hD hS hn hz
      · exact hst1.elim
    · intro ls sv H locs cells slots ads tys ws hL hst hR hpre hK hP hD hS hn hz
      rcases st with _ | ⟨a | a | a, _ | ⟨b, st⟩⟩ <;> first | (cases q; done) | skip
      simp only [zI] at q
      split at q
      next h01 =>
        cases q
        obtain ⟨T1, rfl, hst1⟩ := zSt_i hst
        rcases T1 with _ | ⟨V, T1⟩
        · exact hF pc _ ls (some (.int (Int32.ofInt a))) H locs cells slots ads tys ws hd (Or.inl ⟨rfl, _, rfl, Or.inr ⟨hrt, by rcases h01 with rfl | rfl; exact Or.inl rfl; exact Or.inr rfl⟩⟩) ⟨_, rfl, rfl⟩ hR hpre hK hP hD hS hn hz
        · exact hst1.elim
      next => cases q
  case lreturn =>
    obtain ⟨hd, hrt⟩ := ok
    intro ls sv H locs cells slots ads tys ws hL hst hR hpre hK hP hD hS hn hz
    rcases st with _ | ⟨a | a | a, _ | ⟨b, st⟩⟩ <;> first | (cases q; done) | skip
    cases q
    obtain ⟨T1, rfl, hst1⟩ := zSt_l hst
    rcases T1 with _ | ⟨V, T1⟩
    · exact hF pc _ ls (some (.long (Int64.ofInt a))) H locs cells slots ads tys ws hd (Or.inr (Or.inl ⟨rfl, hrt, _, rfl⟩)) ⟨_, rfl, rfl⟩ hR hpre hK hP hD hS hn hz
    · exact hst1.elim
  case areturn =>
    obtain ⟨hd, t, hrt, hkt⟩ := ok
    intro ls sv H locs cells slots ads tys ws hL hst hR hpre hK hP hD hS hn hz
    rcases st with _ | ⟨a | a | a, _ | ⟨b, st⟩⟩ <;> first | (cases q; done) | skip
    cases q
    obtain ⟨V, T1, rfl, hV, hst1⟩ := zSt_r hst
    rcases T1 with _ | ⟨V2, T1⟩
    · refine hF pc _ ls (some V) H locs cells slots ads tys ws hd (Or.inr (Or.inr (Or.inl ⟨rfl, V, rfl, ?_, t, hrt, hkt⟩))) ⟨_, rfl, hV⟩ hR hpre hK hP hD hS hn hz
      rcases a with _ | a
      · exact Or.inl hV
      · obtain ⟨a1, -, h2⟩ := hV
        exact Or.inr ⟨a1, h2⟩
    · exact hst1.elim
  case return_ =>
    obtain ⟨hd, hrt⟩ := ok
    intro ls sv H locs cells slots ads tys ws hL hst hR hpre hK hP hD hS hn hz
    rcases st with _ | ⟨a, st⟩ <;> first | (cases q; done) | skip
    cases q
    rcases sv with _ | ⟨V, sv⟩
    · exact hF pc _ ls none H locs cells slots ads tys ws hd (Or.inr (Or.inr (Or.inr ⟨rfl, hrt, rfl⟩))) rfl hR hpre hK hP hD hS hn hz
    · exact hst.elim
  case invokevirtual i => exact zX_sim hG hMt hMet hgr C0 hfr hlo ok (Or.inl ⟨i, rfl⟩) hk hr q
  case invokestatic i =>
    have main : ∀ (a b : Int) (st' : List zV) (v : Int), st = .inl b :: .inl a :: st' → zcs st' ≤ 8 → k L (.inl v :: st') h = some res → 1 ≤ fr → 21 ≤ lo → (∀ (ls : Array Slot) (sv : List Value) (H : Heap) (locs : List Loc) (cells slots : Nat), ls.size = nL → (sv.map fun v => v.category).sum + 13 ≤ R.locals → 1 ≤ R.frames → cells ≤ R.cells → slots ≤ R.slots → W p l e R s m args below meth c H locs cells slots Q (F0 m (pc + 3) ls (.int (Int32.ofInt v) :: sv)) → W p l e R s m args below meth c H locs cells slots Q (F0 m pc ls (.int (Int32.ofInt b) :: .int (Int32.ofInt a) :: sv))) → zSim p l e R s m args below meth c Q nL D cl A ads0 n0 z0 pc L st h := by
      intro a b st' v hst0 hlen q' hf1 hl1 row ls sv H locs cells slots ads tys ws hL hst hR hpre hK hP hD hS hn hz
      subst hst0
      obtain ⟨T1, rfl, hst1⟩ := zSt_i hst
      obtain ⟨T2, rfl, hst2⟩ := zSt_i hst1
      obtain ⟨r1, r2⟩ := hr _ _ _ q'
      have hc := zSt_cat hst2
      exact row ls T2 H locs cells slots hL.1 (by omega) (by omega) (by omega) (by omega) (hk _ _ _ q' _ _ _ _ _ _ _ _ _ hL ⟨rfl, hst2⟩ hR hpre hK hP hD hS hn hz)
    by_cases hx1 : x = [0]
    · subst hx1
      obtain ⟨hd, ⟨-, ⟨w1, w2, w3, w4⟩, hf1, hl1⟩ | ⟨hbad, -⟩ | ⟨_, _, _, _, _, _, hbad, -⟩⟩ := ok
      · obtain ⟨hx, hb, hml, hts, hown, -⟩ := C0
        rcases st with _ | ⟨b | b | b, _ | ⟨a | a | a, st⟩⟩ <;> first | (cases q; done) | skip
        simp only [zI] at q
        split at q
        next hlen =>
          refine main a b st _ rfl hlen q hf1 hl1 (fun ls sv H locs cells slots z1 z2 z3 z4 z5 kk => va_mmax hx hb (by rw [hml]; exact z1.symm) hown (hts _ w1) (hts _ w2) (hts _ w3) (hts _ w4) z3 z2 z4 z5 hd ?_)
          by_cases hlt : zw a < zw b
          · rw [if_pos hlt] at kk
            rw [if_pos ((zw_lt a b).mpr hlt)]
            exact kk
          · rw [if_neg hlt] at kk
            rw [if_neg (fun z => hlt ((zw_lt a b).mp z))]
            exact kk
        next => cases q
      · cases hbad
      · cases hbad
    by_cases hx2 : x = [1]
    · subst hx2
      obtain ⟨hd, ⟨hbad, -⟩ | ⟨-, ⟨w1, w2, w3, w4⟩, hf1, hl1⟩ | ⟨_, _, _, _, _, _, hbad, -⟩⟩ := ok
      · cases hbad
      · obtain ⟨hx, hb, hml, hts, hown, -⟩ := C0
        rcases st with _ | ⟨b | b | b, _ | ⟨a | a | a, st⟩⟩ <;> first | (cases q; done) | skip
        simp only [zI] at q
        split at q
        next hlen =>
          refine main a b st _ rfl hlen q hf1 hl1 (fun ls sv H locs cells slots z1 z2 z3 z4 z5 kk => va_mmin hx hb (by rw [hml]; exact z1.symm) hown (hts _ w1) (hts _ w2) (hts _ w3) (hts _ w4) z3 z2 z4 z5 hd ?_)
          by_cases hlt : zw b < zw a
          · rw [if_pos hlt] at kk
            rw [if_pos ((zw_lt b a).mpr hlt)]
            exact kk
          · rw [if_neg hlt] at kk
            rw [if_neg (fun z => hlt ((zw_lt b a).mp z))]
            exact kk
        next => cases q
      · cases hbad
    have q' : zX rec x L st h k = some res := by
      rcases x with _ | ⟨_ | _ | t, _ | ⟨t2, x⟩⟩ <;> first | exact q | exact absurd rfl hx1 | exact absurd rfl hx2
    exact zX_sim hG hMt hMet hgr C0 hfr hlo ok (Or.inr (Or.inl ⟨i, rfl, hx1, hx2⟩)) hk hr q'
  case invokespecial i =>
    rcases x with _ | ⟨x1, x⟩
    · rcases st with _ | ⟨a | a | (_ | a), _ | ⟨b, st⟩⟩ <;> first | (cases q; done) | skip
      obtain ⟨hd, ⟨-, w1, w2, w3, hf1, hl1⟩ | ⟨_, _, _, _, _, _, _, _, hbad, -⟩⟩ := ok
      · obtain ⟨hx, hb, hml, hts, hown, -⟩ := C0
        intro ls sv H locs cells slots ads tys ws hL hst hR hpre hK hP hD hS hn hz
        obtain ⟨V, T1, rfl, hV, hst1⟩ := zSt_r hst
        obtain ⟨a1, -, rfl⟩ := hV
        rcases T1 with _ | ⟨V2, T1⟩
        · refine W.objInit hx hb hown (hts _ w1) (hts _ w2) (hts _ w3) rfl (by rw [hml]; exact hL.1) rfl hd (by omega) ?_ ?_
          · have := lv_room (m := m) (pc := pc) (ls := ls) (rest := [Value.ref a1]) (st := []) (by simp)
            simp only [List.map_nil, List.sum_nil] at this ⊢
            omega
          · exact hk _ _ _ q _ _ _ _ _ _ _ _ _ hL hst1 hR hpre hK hP hD hS hn hz
        · exact hst1.elim
      · cases hbad
    · exact zX_sim hG hMt hMet hgr C0 hfr hlo ok (Or.inr (Or.inr ⟨i, rfl, by simp⟩)) hk hr q
  all_goals exact zS_arith (x := x) (cv := cv) (L := L) (st := st) (h := h) (k := k) C0 ok hk hr q
end ZRUN
theorem zB_sim {p : Program} {l : Launch} {e : Env} {R : Room} {s : State} {m : MethodId} {args : Array Value} {below : List Frame} {meth : Method} {c : Code} {Q : State → Prop} {cc : ByteArray} {nL : Nat} {own : String} {D : va_G} {cl : List vw_C} {A : Nat → Prop} {xs : List Int} {ads0 : List Nat} {n0 z0 : Nat} {Ts : List Cond} {ctor : Bool} {rt0 : Option FieldType}
    {mt : Nat → Option zM} {rec : Nat → Nat → zL → List zV → zH → Option zR} {M fr lo : Nat} (hG : zTk Ts) (hMt : ∀ (q : Nat) (y : MethodName) (by' : ByteArray) (mL : Nat) (rt : Option FieldType) (fr lo : Nat), q ≠ 0 → mt q = some (y, by', mL, rt, fr, lo) → (y.cls ≠ "java/lang/invoke/MethodHandle" ∧ y.cls ≠ "java/lang/invoke/VarHandle") ∧ Cond.code y by' mL rt ∈ Ts ∧ Cond.initialized y.cls ∈ Ts)
    (hMet : ∀ (q : Nat) (y : MethodName) (by' : ByteArray) (mL : Nat) (rt : Option FieldType) (fr lo : Nat) (vs : List zV) (h : zH) (r : zR), mt q = some (y, by', mL, rt, fr, lo) → rec q 0 (zargs vs) [] h = some r → zMet l cl Ts xs y by' mL rt fr lo vs h r)
    (hgr : ∀ m pc L st h r, rec m pc L st h = some r → zge h r.2)
    (C0 : zCtx p s m args meth c cc nL own ctor cl A xs ads0 Ts) (hfr : fr ≤ R.frames) (hlo : lo ≤ R.locals) {res : zR} (hroom : res.2.length ≤ R.cells + n0 ∧ zsz res.2 ≤ R.slots + z0) (hJ : ∀ pc L st h, rec M pc L st h = some res → zSim p l e R s m args below meth c Q nL D cl A ads0 n0 z0 pc L st h) (hF : zFin p l e R s m args below meth c Q cc rt0 D cl A ads0 n0 z0 res) :
    ∀ (b : List zE) (pc : Nat) (L : zL) (st : List zV) (h : zH), zBK mt cl Ts own ctor nL rt0 fr lo cc pc b → zB xs rec M b L st h = some res → zSim p l e R s m args below meth c Q nL D cl A ads0 n0 z0 pc L st h
  | [], pc, L, st, h, _, q => by cases q
  | (I, x, cv) :: t, pc, L, st, h, ok, q => zI_sim hG hMt hMet hgr C0 hfr hlo hJ hF ok.1 (fun L' st' h' q' => zB_sim hG hMt hMet hgr C0 hfr hlo hroom hJ hF t _ L' st' h' ok.2 q') (fun L' st' h' q' => by
      have := zgrow_B xs rec hgr M res t L' st' h' q'
      exact ⟨Nat.le_trans this.1 hroom.1, Nat.le_trans this.2 hroom.2⟩) q
def zGood (mt : Nat → Option zM) (B : Nat → Nat → Option (List zE)) (cl : List vw_C) (Ts : List Cond) (xs : List Int) (n : Nat) : Prop := ∀ (M : Nat) (y : MethodName) (by' : ByteArray) (mL : Nat) (rt : Option FieldType) (fr lo : Nat), mt M = some (y, by', mL, rt, fr, lo) →
  ∀ (p : Program) (l : Launch) (e : Env) (R : Room) (s : State) (m : MethodId) (args : Array Value) (below : List Frame) (meth : Method) (c : Code) (Q : State → Prop) (D : va_G) (A : Nat → Prop) (ads0 : List Nat) (n0 z0 : Nat) (res : zR), zCtx p s m args meth c by' mL y.cls (y.name == "<init>") cl A xs ads0 Ts → fr ≤ R.frames → lo ≤ R.locals → zFin p l e R s m args below meth c Q by' rt D cl A ads0 n0 z0 res → (res.2.length ≤ R.cells + n0 ∧ zsz res.2 ≤ R.slots + z0) →
  ∀ (pc : Nat) (L : zL) (st : List zV) (h : zH), zrun B xs n M pc L st h = some res → zSim p l e R s m args below meth c Q mL D cl A ads0 n0 z0 pc L st h
theorem zargs_lg {ads : List Nat} : ∀ {vs : List zV} {avs : List Value}, zSt ads vs avs → (lg_sl avs).length = (zargs vs).length
  | [], [], _ => rfl
  | .inl x :: t, V :: T, h => by
    have h1 := zargs_lg h.2
    have h2 := zcR_cat h.1
    simp [lg_sl, h2, zcat, zargs] at h1 ⊢
    exact h1
  | .inr (.inl x) :: t, V :: T, h => by
    have h1 := zargs_lg h.2
    have h2 := zcR_cat h.1
    simp [lg_sl, h2, zcat, zargs] at h1 ⊢
    omega
  | .inr (.inr x) :: t, V :: T, h => by
    have h1 := zargs_lg h.2
    have h2 := zcR_cat h.1
    simp [lg_sl, h2, zcat, zargs] at h1 ⊢
    exact h1
  | [], _ :: _, h => h.elim
  | _ :: _, [], h => h.elim
theorem zargs_lv {ads : List Nat} : ∀ (vs : List zV) (avs : List Value) (k : Nat), zSt ads vs avs → ∀ (i : Nat) (v : zV), (zargs vs)[i]? = some (some v) → ∃ V, (k + i, V) ∈ lv_args k avs ∧ zcR ads v V
  | [], [], k, _, i, v, h => by simp [zargs] at h
  | [], _ :: _, k, hh, i, v, h => hh.elim
  | _ :: _, [], k, hh, i, v, h => hh.elim
  | w :: t, V :: T, k, hh, i, v, h => by
    have h2 := zcR_cat hh.1
    rcases w with w | w | w
    · rcases i with _ | i
      · simp [zargs] at h
        subst h
        exact ⟨V, by simp [lv_args], hh.1⟩
      · simp [zargs] at h
        obtain ⟨V2, e1, e2⟩ := zargs_lv t T (k + 1) hh.2 i v h
        exact ⟨V2, by simp [lv_args, h2, zcat]; rw [show k + (i + 1) = k + 1 + i by omega]; exact e1, e2⟩
    · rcases i with _ | _ | i
      · simp [zargs] at h
        subst h
        exact ⟨V, by simp [lv_args], hh.1⟩
      · simp [zargs] at h
      · simp [zargs] at h
        obtain ⟨V2, e1, e2⟩ := zargs_lv t T (k + 2) hh.2 i v h
        exact ⟨V2, by simp [lv_args, h2, zcat]; rw [show k + (i + 1 + 1) = k + 2 + i by omega]; exact e1, e2⟩
    · rcases i with _ | i
      · simp [zargs] at h
        subst h
        exact ⟨V, by simp [lv_args], hh.1⟩
      · simp [zargs] at h
        obtain ⟨V2, e1, e2⟩ := zargs_lv t T (k + 1) hh.2 i v h
        exact ⟨V2, by simp [lv_args, h2, zcat]; rw [show k + (i + 1) = k + 1 + i by omega]; exact e1, e2⟩
theorem zMet_of {mt : Nat → Option zM} {B : Nat → Nat → Option (List zE)} {cl : List vw_C} {Ts : List Cond} {xs : List Int} (hW : zProg mt B cl Ts) {n : Nat} (ih : zGood mt B cl Ts xs n) (l : Launch) (M : Nat) (y : MethodName) (by' : ByteArray) (mL : Nat) (rt : Option FieldType) (fr lo : Nat) (vs : List zV) (h : zH) (r : zR) (hm : mt M = some (y, by', mL, rt, fr, lo)) (q : zrun B xs n M 0 (zargs vs) [] h = some r) : zMet l cl Ts xs y by' mL rt fr lo vs h r := by
  intro D ads b tys ws sz avs hb0 hR hvs hlen
  obtain ⟨hG, hcl, hW3⟩ := hW
  obtain ⟨hy, hplain, -, -⟩ := hW3 M y by' mL rt fr lo hm
  have hge := zgrow_run B xs n M 0 _ _ _ _ q
  refine Met.ofW (cc := by') (maxL := mL) (ret := rt) hplain rfl ?_
  intro p e s m args below meth c s₁ Bd hml hv
  obtain ⟨rfl, hsz, hP, hK, hD0, hX, hbl, hbA, hbw⟩ := hv
  have hx := Bd.exec
  have hb := Bd.bytes
  have hr := Bd.returns
  have hts : ∀ w ∈ Ts, w.before avs.toArray s = true := fun w hw => by
    rcases hG w hw with hg | hg
    · exact atoms_spec (ws := Cond.code y by' mL rt :: Ts.filter goodWord) Bd.pre w (List.mem_cons_of_mem _ (List.mem_filter.mpr ⟨hw, hg⟩))
    · exact zbad_use hg (hbw w hw hg)
  have hown : s.vm.findClass y.cls = some m.cls := findClass_of_methodNamed Bd.named
  have hlocks := Bd.notSynchronized
  have hin : (y.name == "<init>") = true → meth.name = "<init>" := fun hh => by
    rw [(name_of_methodNamed Bd.named Bd.method).1]
    exact eq_of_beq hh
  subst hsz
  have hD := hD0.self (sz := s.heap.size)
  have hA : ∀ q : Nat, s.heap.size ≤ q → va_A ws s.heap.size q := fun q h => Or.inr h
  rw [lg_entry_eq]
  have hl := lv_entry avs (n := mL) (by rw [zargs_lg hvs]; exact hlen)
  refine ih M y by' mL rt fr lo hm p l e _ s m avs.toArray below meth c _ D (va_A ws s.heap.size) ads h.length (zsz h) r ⟨hx, hb, hml, hts, hown, hA, hcl, hin, b, hb0, hX, hbl, hbA⟩ (Nat.le_refl _) (Nat.le_refl _) ?_ ⟨?_, ?_⟩ 0 (zargs vs) [] h q _ [] _ [] 0 0 ads tys ws ⟨hl.1, hl.2.1, fun i v hv => ?_⟩ trivial hR (zpre_rf _) hK hP hD va_S.rf (Nat.zero_add _) (Nat.zero_add _)
  · intro pc I ls rv H locs cells slots ads' tys' ws' hd hri hret hR' hpre' hK' hP' hD' hS' hn' hz'
    have e1 : cells = r.2.length - h.length := by omega
    have e2 : slots = zsz r.2 - zsz h := by omega
    subst e1
    subst e2
    have post : ∀ t : State, t.heap = H → s.WarmedH t.vm → zQc cl D ads ws s.heap.size r avs.toArray s (.returned rv) t := fun t ht hW => ⟨⟨rv, ads', tys', ws', rfl, hret, hR', hpre', by rw [ht]; exact hP', va_K.moved hW.alike hK', hD'⟩, hS'.F ht⟩
    rcases hri with ⟨rfl, v, rfl, hrt | ⟨hrt, hv⟩⟩ | ⟨rfl, hrt, v, rfl⟩ | ⟨rfl, V, rfl, hV, t, hrt, hkt⟩ | ⟨rfl, hrt, rfl⟩
    · exact W.iret hx hb (by rw [hr, hrt]) post hS'.2.2 hd hlocks
    · exact W.zret (ty := .boolean) hx hb (by rw [hr, hrt]) (by rcases hv with rfl | rfl <;> decide) post hS'.2.2 hd hlocks
    · exact W.lret hx hb (by rw [hr, hrt]) post hS'.2.2 hd hlocks
    · exact W.aret hx hb (by rw [hr, hrt]) hkt hV post hS'.2.2 hd hlocks
    · exact W.vret hx hb (by rw [hr, hrt]) post hS'.2.2 hd hlocks
  · show r.2.length ≤ (r.2.length - h.length) + h.length
    have := hge.1
    omega
  · show zsz r.2 ≤ (zsz r.2 - zsz h) + zsz h
    have := hge.2
    omega
  · obtain ⟨V, e1, e2⟩ := zargs_lv vs avs 0 hvs i v hv
    rw [Nat.zero_add] at e1
    exact ⟨V, hl.2.2 _ e1, e2⟩
theorem zGood_all {mt : Nat → Option zM} {B : Nat → Nat → Option (List zE)} {cl : List vw_C} {Ts : List Cond} {xs : List Int} (hW : zProg mt B cl Ts) : ∀ n, zGood mt B cl Ts xs n := by
  intro n
  induction n with
  | zero =>
    intro M y by' mL rt fr lo hm p l e R s m args below meth c Q D A ads0 n0 z0 res C0 hfr hlo hF hroom pc L st h q
    cases q
  | succ n ih =>
    intro M y by' mL rt fr lo hm p l e R s m args below meth c Q D A ads0 n0 z0 res C0 hfr hlo hF hroom pc L st h q
    rw [zrun] at q
    cases hb : B M pc with
    | none => rw [hb] at q; cases q
    | some b =>
      rw [hb] at q
      have hW3 := hW.2.2
      obtain ⟨-, -, -, hblk⟩ := hW3 M y by' mL rt fr lo hm
      refine zB_sim hW.1 (fun q y by' mL rt fr lo hq0 hq => ?_) (fun q y by' mL rt fr lo vs h r hq hrun => zMet_of hW ih l q y by' mL rt fr lo vs h r hq hrun) (zgrow_run B xs n) C0 hfr hlo hroom (fun pc L st h q' => ih M y by' mL rt fr lo hm p l e R s m args below meth c Q D A ads0 n0 z0 res C0 hfr hlo hF hroom pc L st h q') hF b pc L st h (hblk pc b hb) q
      obtain ⟨h1, -, h2, -⟩ := hW3 q y by' mL rt fr lo hq
      exact ⟨h1, h2 hq0⟩
end
section
/-! ===== the tables are right: what a program can check of them ===== -/
def zcpOK (mt : Nat → Option zM) (cl : List vw_C) (Ts : List Cond) (own : String) (idx : Nat) (e : List Nat) : Prop := match e with
  | [0, ci, j, k, fin] => ∃ (T : u_T) (N : Nat), cl[ci]? = some (own, T, N) ∧ j < N ∧ (T j).1 = own ∧ Cond.fieldLink own idx own (T j).2.1 (T j).2.2.1 ∈ Ts ∧ (∃ ty, parseFieldDescriptor (T j).2.2.1 = some ty ∧ zKd k ty) ∧ (fin = 0 → (T j).2.2.2 = false)
  | [1, q, n, mx, f2, l2, ci] => ∃ y by' rt T N, q ≠ 0 ∧ mt q = some (y, by', mx, rt, f2, l2) ∧ (parseMethodDescriptor y.desc).map (fun d => d.parameters.length) = some n ∧ cl[ci]? = some (y.cls, T, N) ∧ Cond.methodLink own idx y ∈ Ts ∧ Cond.instanceMethod y ∈ Ts ∧ Cond.selects y.cls y y ∈ Ts
  | [2, q, n, mx, f2, l2] => ∃ y by' rt, q ≠ 0 ∧ mt q = some (y, by', mx, rt, f2, l2) ∧ (parseMethodDescriptor y.desc).map (fun d => d.parameters.length) = some n ∧ (Cond.methodLink own idx y ∈ Ts ∨ ∃ host, Cond.methodLinkNest own idx y host ∈ Ts) ∧ Cond.static y ∈ Ts
  | [3, q, n, mx, f2, l2, ci] => ∃ y by' T N, q ≠ 0 ∧ mt q = some (y, by', mx, none, f2, l2) ∧ (parseMethodDescriptor y.desc).map (fun d => d.parameters.length) = some n ∧ cl[ci]? = some (y.cls, T, N) ∧ (Cond.methodLink own idx y ∈ Ts ∨ ∃ host, Cond.methodLinkNest own idx y host ∈ Ts) ∧ Cond.instanceMethod y ∈ Ts ∧ y.name = "<init>"
  | [4] => Cond.methodLink own idx Lib.objectInit ∈ Ts ∧ Cond.instanceMethod Lib.objectInit ∈ Ts ∧ Cond.code Lib.objectInit ⟨#[0xb1]⟩ 1 none ∈ Ts
  | 5 :: ci :: ks => zNw cl Ts own idx ci ks
  | [6, ci] => ∃ C T N, cl[ci]? = some (C, T, N) ∧ Cond.classLink own (idx - 100000) C ∈ Ts ∧ Cond.arrayOver (.object C) ∈ Ts
  | [7, sg, a] => Cond.constant own idx (Int32.ofInt (if sg = 0 then (a : Int) else -(a : Int))) ∈ Ts
  | [8, sg, a] => Cond.constantLong own idx (Int64.ofInt (if sg = 0 then (a : Int) else -(a : Int))) ∈ Ts
  | [9, w] => (w = 0 ∧ zMth Ts own idx Lib.Math.max.name Lib.Math.max.code) ∨ (w = 1 ∧ zMth Ts own idx Lib.Math.min.name Lib.Math.min.code)
  | _ => False
def zfnd (cp : List (Nat × List Nat)) (i : Nat) : List Nat := (cp.lookup i).getD []
def zdec (cc : ByteArray) (pc : Nat) (I : Instr) (n : Nat) : Bool := decide (decode cc pc = .ok (I, n))
/-- a jump's target -/
def zjmp (pc : Nat) (off : Int) (x : List Nat) : Bool := match x with
  | t :: _ => decide ((pc : Int) + off = (t : Int))
  | [] => false
def zck1 (cp : List (Nat × List Nat)) (ctor : Bool) (nL : Nat) (rt : Option FieldType) (fr lo : Nat) (cc : ByteArray) (pc : Nat) (I : Instr) (x : List Nat) (c : Int) : Bool := match I with
  | .nop => match x with | t :: _ => t == pc | [] => false
  | .goto off => zdec cc pc (.goto off) 3 && zjmp pc off x
  | .ifCond cd off => zdec cc pc (.ifCond cd off) 3 && zjmp pc off x
  | .if_icmp cd off => zdec cc pc (.if_icmp cd off) 3 && zjmp pc off x
  | .ifnull off => zdec cc pc (.ifnull off) 3 && zjmp pc off x
  | .ifnonnull off => zdec cc pc (.ifnonnull off) 3 && zjmp pc off x
  | .tableswitch d lo2 hi2 offs => zdec cc pc (.tableswitch d lo2 hi2 offs) c.toNat && (match x with
    | n :: dt :: rest => decide ((pc : Int) + d = (dt : Int)) && (offs.toList.map fun o => (pc : Int) + o) == ((rest.drop n).map fun (t : Nat) => (t : Int))
    | _ => false)
  | .ireturn => zdec cc pc .ireturn 1 && ((x == [0] && decide (rt = some .int)) || (x == [1] && decide (rt = some .boolean)))
  | .lreturn => zdec cc pc .lreturn 1 && decide (rt = some .long)
  | .areturn => zdec cc pc .areturn 1 && (match rt with | some (.object _) => true | some (.array _) => true | _ => false)
  | .return_ => zdec cc pc .return_ 1 && decide (rt = none)
  | .invokevirtual i => zdec cc pc (.invokevirtual i) 3 && (match zfnd cp i, x with | [1, q, n, mx, f2, l2, ci], [q', n', _, mx', ci'] => q == q' && n + 1 == n' && mx == mx' && ci == ci' && decide (f2 + 1 ≤ fr) && decide (8 + (mx + 11) + l2 ≤ lo) | _, _ => false)
  | .invokestatic i => zdec cc pc (.invokestatic i) 3 && (match zfnd cp i, x with | [2, q, n, mx, f2, l2], [q', n', _, mx'] => q == q' && n == n' && mx == mx' && decide (f2 + 1 ≤ fr) && decide (8 + (mx + 11) + l2 ≤ lo) | [9, w], [w'] => w == w' && decide (1 ≤ fr) && decide (21 ≤ lo) | _, _ => false)
  | .invokespecial i => zdec cc pc (.invokespecial i) 3 && (match zfnd cp i, x with | [4], [] => decide (1 ≤ fr) && decide (20 ≤ lo) | [3, q, n, mx, f2, l2, ci], [q', n', _, mx', ci'] => q == q' && n + 1 == n' && mx == mx' && ci == ci' && decide (f2 + 1 ≤ fr) && decide (8 + (mx + 11) + l2 ≤ lo) | _, _ => false)
  | .bipush n => zdec cc pc (.bipush n) 2 && decide (-128 ≤ n) && decide (n ≤ 127)
  | .sipush n => zdec cc pc (.sipush n) 3 && decide (-32768 ≤ n) && decide (n ≤ 32767)
  | .ldc i => zdec cc pc (.ldc i) 2 && (match zfnd cp i with | [7, sg, a] => decide (c = if sg = 0 then (a : Int) else -(a : Int)) | _ => false)
  | .ldc_w i => zdec cc pc (.ldc_w i) 3 && (match zfnd cp i with | [7, sg, a] => decide (c = if sg = 0 then (a : Int) else -(a : Int)) | _ => false)
  | .ldc2_w i => zdec cc pc (.ldc2_w i) 3 && (match zfnd cp i with | [8, sg, a] => decide (c = if sg = 0 then (a : Int) else -(a : Int)) | _ => false)
  | .istore i => zdec cc pc (.istore i) 2 && decide (i < nL)
  | .istore_n i => zdec cc pc (.istore_n i) 1 && decide ((i : Nat) < nL)
  | .astore i => zdec cc pc (.astore i) 2 && decide (i < nL)
  | .astore_n i => zdec cc pc (.astore_n i) 1 && decide ((i : Nat) < nL)
  | .lstore i => zdec cc pc (.lstore i) 2 && decide (i + 1 < nL)
  | .lstore_n i => zdec cc pc (.lstore_n i) 1 && decide ((i : Nat) + 1 < nL)
  | .getfield i => zdec cc pc (.getfield i) 3 && (match zfnd cp i, x with | [0, ci, j, _, _], [ci', j', _] => ci == ci' && j == j' | _, _ => false)
  | .putfield i => zdec cc pc (.putfield i) 3 && (match zfnd cp i, x with | [0, ci, j, k, fin], [ci', j', k'] => ci == ci' && j == j' && k == k' && (fin == 0 || ctor) | _, _ => false)
  | .new i => zdec cc pc (.new i) 3 && (match zfnd cp i with | 5 :: ks => ks == x | _ => false)
  | .newarray t => zdec cc pc (.newarray t) 2 && ((x == [0] && decide (t = .int)) || (x == [1] && decide (t = .long)))
  | .anewarray i => zdec cc pc (.anewarray i) 3 && (match zfnd cp (i + 100000) with | [6, ci] => x == [102 + ci] | _ => false)
  | .aaload => zdec cc pc .aaload 1 && (match x with | [t] => decide (102 ≤ t) | _ => false)
  | .aastore => zdec cc pc .aastore 1 && (match x with | [t, ci] => t == 102 + ci | _ => false)
  | I => zdec cc pc I (zlen I)
def zckB (cp : List (Nat × List Nat)) (ctor : Bool) (nL : Nat) (rt : Option FieldType) (fr lo : Nat) (cc : ByteArray) : Nat → List zE → Bool
  | _, [] => true
  | pc, (I, x, c) :: t => zck1 cp ctor nL rt fr lo cc pc I x c && zckB cp ctor nL rt fr lo cc (pc + zlen I) t
theorem zfnd_ok {mt : Nat → Option zM} {cl : List vw_C} {Ts : List Cond} {own : String} {cp : List (Nat × List Nat)} (hcp : ∀ i e, cp.lookup i = some e → zcpOK mt cl Ts own i e) {i n : Nat} {e : List Nat} (h : zfnd cp i = n :: e) : zcpOK mt cl Ts own i (n :: e) := by
  unfold zfnd at h
  cases hl : cp.lookup i with
  | none => rw [hl] at h; cases h
  | some e2 =>
    rw [hl] at h
    simp at h
    subst h
    exact hcp _ _ hl
theorem zdec_ok {cc : ByteArray} {pc n : Nat} {I : Instr} (h : zdec cc pc I n = true) : decode cc pc = .ok (I, n) := of_decide_eq_true h
theorem zjmp_ok {pc : Nat} {off : Int} {x : List Nat} (h : zjmp pc off x = true) : ∃ t mm, x = t :: mm ∧ (pc : Int) + off = (t : Int) := by
  rcases x with _ | ⟨t, x⟩
  · cases h
  · exact ⟨t, x, rfl, of_decide_eq_true h⟩
theorem zck1_ok {mt : Nat → Option zM} {cl : List vw_C} {Ts : List Cond} {own : String} {cp : List (Nat × List Nat)} (hcp : ∀ i e, cp.lookup i = some e → zcpOK mt cl Ts own i e) (hai : Cond.arrayClass .int ∈ Ts) (hal : Cond.arrayClass .long ∈ Ts) {ctor : Bool} {nL : Nat} {rt : Option FieldType} {fr lo : Nat} {cc : ByteArray} {pc : Nat} {I : Instr} {x : List Nat} {c : Int} (h : zck1 cp ctor nL rt fr lo cc pc I x c = true) : zIOK mt cl Ts own ctor nL rt fr lo cc pc I x c := by
  cases I
  case nop =>
    rcases x with _ | ⟨t, x⟩
    · cases h
    · have := eq_of_beq h
      subst this
      exact ⟨x, rfl⟩
  case goto off => simp only [zck1, Bool.and_eq_true] at h; exact ⟨zdec_ok h.1, zjmp_ok h.2⟩
  case ifCond cd off => simp only [zck1, Bool.and_eq_true] at h; exact ⟨zdec_ok h.1, zjmp_ok h.2⟩
  case if_icmp cd off => simp only [zck1, Bool.and_eq_true] at h; exact ⟨zdec_ok h.1, zjmp_ok h.2⟩
  case ifnull off => simp only [zck1, Bool.and_eq_true] at h; exact ⟨zdec_ok h.1, zjmp_ok h.2⟩
  case ifnonnull off => simp only [zck1, Bool.and_eq_true] at h; exact ⟨zdec_ok h.1, zjmp_ok h.2⟩
  case tableswitch d lo2 hi2 offs =>
    simp only [zck1, Bool.and_eq_true] at h
    obtain ⟨h1, h2⟩ := h
    rcases x with _ | ⟨n, _ | ⟨dt, rest⟩⟩
    · cases h2
    · cases h2
    · simp only [Bool.and_eq_true] at h2
      refine ⟨_, zdec_ok h1, n, dt, rest, rfl, of_decide_eq_true h2.1, fun j t ht => ?_⟩
      have h3 := eq_of_beq h2.2
      have h4 : ((rest.drop n).map fun (t : Nat) => (t : Int))[j]? = some (t : Int) := by rw [List.getElem?_map, ht]; rfl
      rw [← h3, List.getElem?_map] at h4
      cases ho : offs.toList[j]? with
      | none => rw [ho] at h4; cases h4
      | some o =>
        rw [ho] at h4
        refine ⟨o, by rw [← Array.getElem?_toList]; exact ho, ?_⟩
        simpa using h4
  case ireturn =>
    simp only [zck1, Bool.and_eq_true, Bool.or_eq_true, decide_eq_true_eq, beq_iff_eq] at h
    exact ⟨zdec_ok h.1, h.2⟩
  case lreturn =>
    simp only [zck1, Bool.and_eq_true, decide_eq_true_eq] at h
    exact ⟨zdec_ok h.1, h.2⟩
  case areturn =>
    simp only [zck1, Bool.and_eq_true] at h
    refine ⟨zdec_ok h.1, ?_⟩
    have h2 := h.2
    split at h2
    next n => exact ⟨_, rfl, Or.inl ⟨n, rfl⟩⟩
    next t => exact ⟨_, rfl, Or.inr ⟨t, rfl⟩⟩
    next => cases h2
  case return_ =>
    simp only [zck1, Bool.and_eq_true, decide_eq_true_eq] at h
    exact ⟨zdec_ok h.1, h.2⟩
  case invokevirtual i =>
    simp only [zck1, Bool.and_eq_true] at h
    refine ⟨zdec_ok h.1, ?_⟩
    have h2 := h.2
    split at h2
    next q n mx f2 l2 ci q' n' t mx' ci' he =>
      simp only [Bool.and_eq_true, decide_eq_true_eq, beq_iff_eq] at h2
      obtain ⟨⟨⟨⟨⟨rfl, rfl⟩, rfl⟩, rfl⟩, hf⟩, hl⟩ := h2
      obtain ⟨y, by', rt2, T, N, e0, e1, e2, e3, e4, e5, e6⟩ := zfnd_ok hcp he
      exact ⟨q, n, t, mx, ci, y, rt2, T, N, rfl, ⟨by', f2, l2, e0, e1, hf, hl, e2⟩, e3, e4, e5, e6⟩
    next => cases h2
  case invokestatic i =>
    simp only [zck1, Bool.and_eq_true] at h
    refine ⟨zdec_ok h.1, ?_⟩
    have h2 := h.2
    split at h2
    next q n mx f2 l2 q' n' t mx' he =>
      simp only [Bool.and_eq_true, decide_eq_true_eq, beq_iff_eq] at h2
      obtain ⟨⟨⟨⟨rfl, rfl⟩, rfl⟩, hf⟩, hl⟩ := h2
      obtain ⟨y, by', rt2, e0, e1, e2, e3, e4⟩ := zfnd_ok hcp he
      exact Or.inr (Or.inr ⟨q, n, t, mx, y, rt2, rfl, ⟨by', f2, l2, e0, e1, hf, hl, e2⟩, e3, e4⟩)
    next w w' he =>
      simp only [Bool.and_eq_true, decide_eq_true_eq, beq_iff_eq] at h2
      obtain ⟨⟨rfl, hf⟩, hl⟩ := h2
      rcases zfnd_ok hcp he with ⟨rfl, hm⟩ | ⟨rfl, hm⟩
      · exact Or.inl ⟨rfl, hm, hf, hl⟩
      · exact Or.inr (Or.inl ⟨rfl, hm, hf, hl⟩)
    next => cases h2
  case invokespecial i =>
    simp only [zck1, Bool.and_eq_true] at h
    refine ⟨zdec_ok h.1, ?_⟩
    have h2 := h.2
    split at h2
    next he =>
      simp only [Bool.and_eq_true, decide_eq_true_eq] at h2
      obtain ⟨e1, e2, e3⟩ := zfnd_ok hcp he
      exact Or.inl ⟨rfl, e1, e2, e3, h2.1, h2.2⟩
    next q n mx f2 l2 ci q' n' t mx' ci' he =>
      simp only [Bool.and_eq_true, decide_eq_true_eq, beq_iff_eq] at h2
      obtain ⟨⟨⟨⟨⟨rfl, rfl⟩, rfl⟩, rfl⟩, hf⟩, hl⟩ := h2
      obtain ⟨y, by', T, N, e0, e1, e2, e3, e4, e5, e6⟩ := zfnd_ok hcp he
      exact Or.inr ⟨q, n, t, mx, ci, y, T, N, rfl, ⟨by', f2, l2, e0, e1, hf, hl, e2⟩, e3, e4, e5, e6⟩
    next => cases h2
  case bipush n => simp only [zck1, Bool.and_eq_true, decide_eq_true_eq] at h; exact ⟨zdec_ok h.1.1, h.1.2, h.2⟩
  case sipush n => simp only [zck1, Bool.and_eq_true, decide_eq_true_eq] at h; exact ⟨zdec_ok h.1.1, h.1.2, h.2⟩
  case ldc i =>
    simp only [zck1, Bool.and_eq_true] at h
    refine ⟨zdec_ok h.1, ?_⟩
    have h2 := h.2
    split at h2
    next sg a he => rw [of_decide_eq_true h2]; exact zfnd_ok hcp he
    next => cases h2
  case ldc_w i =>
    simp only [zck1, Bool.and_eq_true] at h
    refine ⟨zdec_ok h.1, ?_⟩
    have h2 := h.2
    split at h2
    next sg a he => rw [of_decide_eq_true h2]; exact zfnd_ok hcp he
    next => cases h2
  case ldc2_w i =>
    simp only [zck1, Bool.and_eq_true] at h
    refine ⟨zdec_ok h.1, ?_⟩
    have h2 := h.2
    split at h2
    next sg a he => rw [of_decide_eq_true h2]; exact zfnd_ok hcp he
    next => cases h2
  case istore i => simp only [zck1, Bool.and_eq_true, decide_eq_true_eq] at h; exact ⟨zdec_ok h.1, h.2⟩
  case istore_n i => simp only [zck1, Bool.and_eq_true, decide_eq_true_eq] at h; exact ⟨zdec_ok h.1, h.2⟩
  case astore i => simp only [zck1, Bool.and_eq_true, decide_eq_true_eq] at h; exact ⟨zdec_ok h.1, h.2⟩
  case astore_n i => simp only [zck1, Bool.and_eq_true, decide_eq_true_eq] at h; exact ⟨zdec_ok h.1, h.2⟩
  case lstore i => simp only [zck1, Bool.and_eq_true, decide_eq_true_eq] at h; exact ⟨zdec_ok h.1, h.2⟩
  case lstore_n i => simp only [zck1, Bool.and_eq_true, decide_eq_true_eq] at h; exact ⟨zdec_ok h.1, h.2⟩
  case getfield i =>
    simp only [zck1, Bool.and_eq_true] at h
    refine ⟨zdec_ok h.1, ?_⟩
    have h2 := h.2
    split at h2
    next ci j k fin ci' j' k' he =>
      simp only [Bool.and_eq_true, beq_iff_eq] at h2
      obtain ⟨rfl, rfl⟩ := h2
      obtain ⟨T, N, e1, e2, e3, e4, -⟩ := zfnd_ok hcp he
      exact ⟨ci, j, k', rfl, T, N, e1, e2, e3, e4⟩
    next => cases h2
  case putfield i =>
    simp only [zck1, Bool.and_eq_true] at h
    refine ⟨zdec_ok h.1, ?_⟩
    have h2 := h.2
    split at h2
    next ci j k fin ci' j' k' he =>
      simp only [Bool.and_eq_true, Bool.or_eq_true, beq_iff_eq] at h2
      obtain ⟨⟨⟨rfl, rfl⟩, rfl⟩, hfin⟩ := h2
      obtain ⟨T, N, e1, e2, e3, e4, e5, e6⟩ := zfnd_ok hcp he
      exact ⟨ci, j, k, rfl, T, N, e1, e2, e3, e4, e5, hfin.imp e6 id⟩
    next => cases h2
  case new i =>
    simp only [zck1, Bool.and_eq_true] at h
    refine ⟨zdec_ok h.1, ?_⟩
    have h2 := h.2
    split at h2
    next ks he =>
      have := eq_of_beq h2
      subst this
      have h3 := zfnd_ok hcp he
      rcases ks with _ | ⟨ci, ks⟩
      · exact h3.elim
      · exact ⟨ci, ks, rfl, h3⟩
    next => cases h2
  case newarray t =>
    simp only [zck1, Bool.and_eq_true, Bool.or_eq_true, decide_eq_true_eq, beq_iff_eq] at h
    refine ⟨zdec_ok h.1, ?_⟩
    rcases h.2 with ⟨h1, h2⟩ | ⟨h1, h2⟩
    · exact Or.inl ⟨h1, h2, hai⟩
    · exact Or.inr ⟨h1, h2, hal⟩
  case anewarray i =>
    simp only [zck1, Bool.and_eq_true] at h
    refine ⟨zdec_ok h.1, ?_⟩
    have h2 := h.2
    split at h2
    next ci he =>
      obtain ⟨C, T, N, e1, e2, e3⟩ := zfnd_ok hcp he
      rw [Nat.add_sub_cancel] at e2
      exact ⟨ci, C, T, N, eq_of_beq h2, e1, e2, e3⟩
    next => cases h2
  case aaload =>
    simp only [zck1, Bool.and_eq_true] at h
    refine ⟨zdec_ok h.1, ?_⟩
    have h2 := h.2
    split at h2
    next t => exact ⟨t - 102, by have := of_decide_eq_true h2; simp; omega⟩
    next => cases h2
  case aastore =>
    simp only [zck1, Bool.and_eq_true] at h
    refine ⟨zdec_ok h.1, ?_⟩
    have h2 := h.2
    split at h2
    next t ci => exact ⟨ci, by rw [eq_of_beq h2]⟩
    next => cases h2
  all_goals exact ⟨zdec_ok h, trivial⟩
theorem zckB_ok {mt : Nat → Option zM} {cl : List vw_C} {Ts : List Cond} {own : String} {cp : List (Nat × List Nat)} (hcp : ∀ i e, cp.lookup i = some e → zcpOK mt cl Ts own i e) (hai : Cond.arrayClass .int ∈ Ts) (hal : Cond.arrayClass .long ∈ Ts) {ctor : Bool} {nL : Nat} {rt : Option FieldType} {fr lo : Nat} {cc : ByteArray} : ∀ {b : List zE} {pc : Nat}, zckB cp ctor nL rt fr lo cc pc b = true → zBK mt cl Ts own ctor nL rt fr lo cc pc b
  | [], _, _ => trivial
  | (I, x, c) :: t, pc, h => by
    simp only [zckB, Bool.and_eq_true] at h
    exact ⟨zck1_ok hcp hai hal h.1, zckB_ok hcp hai hal h.2⟩
/-- all blocks of a method -/
def zckM (cp : List (Nat × List Nat)) (ctor : Bool) (nL : Nat) (rt : Option FieldType) (fr lo : Nat) (cc : ByteArray) (bs : List (Nat × List zE)) : Bool := bs.all fun q => zckB cp ctor nL rt fr lo cc q.1 q.2
theorem zlook {α : Type} : ∀ {l : List (Nat × α)} {i : Nat} {e : α}, l.lookup i = some e → (i, e) ∈ l
  | [], _, _, h => by cases h
  | (j, d) :: t, i, e, h => by
    rw [List.lookup_cons] at h
    cases hij : (i == j) with
    | true =>
      rw [hij] at h
      cases h
      rw [eq_of_beq hij]
      exact List.mem_cons_self
    | false =>
      rw [hij] at h
      exact List.mem_cons_of_mem _ (zlook h)
theorem zckM_ok {mt : Nat → Option zM} {cl : List vw_C} {Ts : List Cond} {own : String} {cp : List (Nat × List Nat)} (hcp : ∀ q ∈ cp, zcpOK mt cl Ts own q.1 q.2) (hai : Cond.arrayClass .int ∈ Ts) (hal : Cond.arrayClass .long ∈ Ts) {ctor : Bool} {nL : Nat} {rt : Option FieldType} {fr lo : Nat} {cc : ByteArray} {bs : List (Nat × List zE)} (h : zckM cp ctor nL rt fr lo cc bs = true) (pc : Nat) (b : List zE) (hb : bs.lookup pc = some b) : zBK mt cl Ts own ctor nL rt fr lo cc pc b :=
  zckB_ok (fun i e he => hcp _ (zlook he)) hai hal (List.all_eq_true.mp h _ (zlook hb))
end
section
/-! ===== the claim's own code, as the reading has it (printed by a program of mine out of javap's listing; checked in the next part) ===== -/
def zcls : List vw_C := [(RX0, TX0, 3), (RX1, TX1, 2), (RX2, TX2, 2), (RX3, TX3, 2), (RX4, TX4, 2), (RX5, TX5, 4), (RX6, TX6, 14), (RX7, TX7, 27)]
/-- MindReadersLaw.law([I)Z -/
def zc_0 : List (Nat × List zE) := [(0, [(.new 7, [6, 2, 2, 2, 0, 2, 2, 2, 2, 0, 2, 2, 2, 2, 2], 0), (.dup, [], 0), (.invokespecial 9, [134, 1, 0, 2, 6], 0), (.astore_n 1, [], 0), (.new 10, [7, 2, 0, 0, 0, 2, 0, 2, 2, 0, 2, 0, 2, 2, 0, 2, 2, 0, 2, 0, 2, 2, 2, 0, 0, 2, 2, 1], 0), (.dup, [], 0), (.invokespecial 12, [1, 1, 0, 1, 7], 0), (.astore_n 2, [], 0), (.iconst 0, [], 0), (.istore_n 3, [], 0), (.nop, [18, 1, 1, 1, 1], 0)]),
  (18, [(.iload_n 3, [], 0), (.aload_n 0, [], 0), (.arraylength, [], 0), (.bipush 6, [], 0), (.isub, [], 0), (.if_icmp .gt 1169, [1193], 0), (.aload_n 0, [], 0), (.iload_n 3, [], 0), (.iaload, [], 0), (.bipush 63, [], 0), (.iand, [], 0), (.tableswitch 1154 0 34 #[155, 208, 221, 234, 247, 300, 333, 366, 389, 422, 465, 488, 521, 554, 577, 610, 633, 666, 699, 722, 745, 809, 832, 845, 858, 891, 925, 958, 981, 1035, 1068, 1091, 1104, 1117, 1140], [4, 1187, 1, 1, 1, 1, 188, 241, 254, 267, 280, 333, 366, 399, 422, 455, 498, 521, 554, 587, 610, 643, 666, 699, 732, 755, 778, 842, 865, 878, 891, 924, 958, 991, 1014, 1068, 1101, 1124, 1137, 1150, 1173], 155)]),
  (188, [(.aload_n 1, [], 0), (.aload_n 0, [], 0), (.iload_n 3, [], 0), (.iconst 1, [], 0), (.iadd, [], 0), (.iaload, [], 0), (.i2l, [], 0), (.bipush 32, [], 0), (.lshl, [], 0), (.aload_n 0, [], 0), (.iload_n 3, [], 0), (.iconst 2, [], 0), (.iadd, [], 0), (.iaload, [], 0), (.i2l, [], 0), (.ldc2_w 13, [], 4294967295), (.land, [], 0), (.lor, [], 0), (.invokevirtual 15, [135, 2, 1, 5, 6], 0), (.aload_n 2, [], 0), (.aload_n 0, [], 0), (.iload_n 3, [], 0), (.iconst 1, [], 0), (.iadd, [], 0), (.iaload, [], 0), (.i2l, [], 0), (.bipush 32, [], 0), (.lshl, [], 0), (.aload_n 0, [], 0), (.iload_n 3, [], 0), (.iconst 2, [], 0), (.iadd, [], 0), (.iaload, [], 0), (.i2l, [], 0), (.ldc2_w 13, [], 4294967295), (.land, [], 0), (.lor, [], 0), (.invokevirtual 19, [3, 2, 1, 9, 7], 0), (.if_icmp .eq 951, [1187, 1, 1, 1, 1], 0), (.iconst 0, [], 0), (.ireturn, [1], 0)]),
  (241, [(.aload_n 1, [], 0), (.invokevirtual 20, [136, 1, 1, 2, 6], 0), (.aload_n 2, [], 0), (.invokevirtual 24, [4, 1, 1, 2, 7], 0), (.if_icmp .eq 938, [1187, 1, 1, 1, 1], 0), (.iconst 0, [], 0), (.ireturn, [1], 0)]),
  (254, [(.aload_n 1, [], 0), (.invokevirtual 25, [137, 1, 1, 1, 6], 0), (.aload_n 2, [], 0), (.invokevirtual 28, [7, 1, 1, 1, 7], 0), (.if_icmp .eq 925, [1187, 1, 1, 1, 1], 0), (.iconst 0, [], 0), (.ireturn, [1], 0)]),
  (267, [(.aload_n 1, [], 0), (.invokevirtual 29, [138, 1, 1, 3, 6], 0), (.aload_n 2, [], 0), (.invokevirtual 32, [8, 1, 1, 2, 7], 0), (.if_icmp .eq 912, [1187, 1, 1, 1, 1], 0), (.iconst 0, [], 0), (.ireturn, [1], 0)]),
  (280, [(.aload_n 1, [], 0), (.aload_n 0, [], 0), (.iload_n 3, [], 0), (.iconst 1, [], 0), (.iadd, [], 0), (.iaload, [], 0), (.aload_n 0, [], 0), (.iload_n 3, [], 0), (.iconst 2, [], 0), (.iadd, [], 0), (.iaload, [], 0), (.aload_n 0, [], 0), (.iload_n 3, [], 0), (.iconst 3, [], 0), (.iadd, [], 0), (.iaload, [], 0), (.aload_n 0, [], 0), (.iload_n 3, [], 0), (.iconst 4, [], 0), (.iadd, [], 0), (.iaload, [], 0), (.invokevirtual 33, [139, 5, 1, 7, 6], 0), (.aload_n 2, [], 0), (.aload_n 0, [], 0), (.iload_n 3, [], 0), (.iconst 1, [], 0), (.iadd, [], 0), (.iaload, [], 0), (.aload_n 0, [], 0), (.iload_n 3, [], 0), (.iconst 2, [], 0), (.iadd, [], 0), (.iaload, [], 0), (.aload_n 0, [], 0), (.iload_n 3, [], 0), (.iconst 3, [], 0), (.iadd, [], 0), (.iaload, [], 0), (.aload_n 0, [], 0), (.iload_n 3, [], 0), (.iconst 4, [], 0), (.iadd, [], 0), (.iaload, [], 0), (.invokevirtual 37, [10, 5, 1, 6, 7], 0), (.if_icmp .eq 859, [1187, 1, 1, 1, 1], 0), (.iconst 0, [], 0), (.ireturn, [1], 0)]),
  (333, [(.aload_n 1, [], 0), (.aload_n 0, [], 0), (.iload_n 3, [], 0), (.iconst 1, [], 0), (.iadd, [], 0), (.iaload, [], 0), (.aload_n 0, [], 0), (.iload_n 3, [], 0), (.iconst 2, [], 0), (.iadd, [], 0), (.iaload, [], 0), (.invokevirtual 38, [140, 3, 1, 5, 6], 0), (.aload_n 2, [], 0), (.aload_n 0, [], 0), (.iload_n 3, [], 0), (.iconst 1, [], 0), (.iadd, [], 0), (.iaload, [], 0), (.aload_n 0, [], 0), (.iload_n 3, [], 0), (.iconst 2, [], 0), (.iadd, [], 0), (.iaload, [], 0), (.invokevirtual 42, [12, 3, 1, 5, 7], 0), (.if_icmp .eq 826, [1187, 1, 1, 1, 1], 0), (.iconst 0, [], 0), (.ireturn, [1], 0)]),
  (366, [(.aload_n 1, [], 0), (.aload_n 0, [], 0), (.iload_n 3, [], 0), (.iconst 1, [], 0), (.iadd, [], 0), (.iaload, [], 0), (.aload_n 0, [], 0), (.iload_n 3, [], 0), (.iconst 2, [], 0), (.iadd, [], 0), (.iaload, [], 0), (.invokevirtual 43, [141, 3, 1, 3, 6], 0), (.aload_n 2, [], 0), (.aload_n 0, [], 0), (.iload_n 3, [], 0), (.iconst 1, [], 0), (.iadd, [], 0), (.iaload, [], 0), (.aload_n 0, [], 0), (.iload_n 3, [], 0), (.iconst 2, [], 0), (.iadd, [], 0), (.iaload, [], 0), (.invokevirtual 46, [13, 3, 1, 3, 7], 0), (.if_icmp .eq 793, [1187, 1, 1, 1, 1], 0), (.iconst 0, [], 0), (.ireturn, [1], 0)]),
  (399, [(.aload_n 1, [], 0), (.aload_n 0, [], 0), (.iload_n 3, [], 0), (.iconst 1, [], 0), (.iadd, [], 0), (.iaload, [], 0), (.invokevirtual 47, [142, 2, 1, 2, 6], 0), (.aload_n 2, [], 0), (.aload_n 0, [], 0), (.iload_n 3, [], 0), (.iconst 1, [], 0), (.iadd, [], 0), (.iaload, [], 0), (.invokevirtual 51, [14, 2, 1, 2, 7], 0), (.if_icmp .eq 770, [1187, 1, 1, 1, 1], 0), (.iconst 0, [], 0), (.ireturn, [1], 0)]),
  (422, [(.aload_n 1, [], 0), (.aload_n 0, [], 0), (.iload_n 3, [], 0), (.iconst 1, [], 0), (.iadd, [], 0), (.iaload, [], 0), (.aload_n 0, [], 0), (.iload_n 3, [], 0), (.iconst 2, [], 0), (.iadd, [], 0), (.iaload, [], 0), (.invokevirtual 52, [143, 3, 1, 4, 6], 0), (.aload_n 2, [], 0), (.aload_n 0, [], 0), (.iload_n 3, [], 0), (.iconst 1, [], 0), (.iadd, [], 0), (.iaload, [], 0), (.aload_n 0, [], 0), (.iload_n 3, [], 0), (.iconst 2, [], 0), (.iadd, [], 0), (.iaload, [], 0), (.invokevirtual 55, [16, 3, 1, 4, 7], 0), (.if_icmp .eq 737, [1187, 1, 1, 1, 1], 0), (.iconst 0, [], 0), (.ireturn, [1], 0)]),
  (455, [(.aload_n 1, [], 0), (.aload_n 0, [], 0), (.iload_n 3, [], 0), (.iconst 1, [], 0), (.iadd, [], 0), (.iaload, [], 0), (.aload_n 0, [], 0), (.iload_n 3, [], 0), (.iconst 2, [], 0), (.iadd, [], 0), (.iaload, [], 0), (.aload_n 0, [], 0), (.iload_n 3, [], 0), (.iconst 3, [], 0), (.iadd, [], 0), (.iaload, [], 0), (.invokevirtual 56, [144, 4, 1, 5, 6], 0), (.aload_n 2, [], 0), (.aload_n 0, [], 0), (.iload_n 3, [], 0), (.iconst 1, [], 0), (.iadd, [], 0), (.iaload, [], 0), (.aload_n 0, [], 0), (.iload_n 3, [], 0), (.iconst 2, [], 0), (.iadd, [], 0), (.iaload, [], 0), (.aload_n 0, [], 0), (.iload_n 3, [], 0), (.iconst 3, [], 0), (.iadd, [], 0), (.iaload, [], 0), (.invokevirtual 60, [25, 4, 1, 4, 7], 0), (.if_icmp .eq 694, [1187, 1, 1, 1, 1], 0), (.iconst 0, [], 0), (.ireturn, [1], 0)]),
  (498, [(.aload_n 1, [], 0), (.aload_n 0, [], 0), (.iload_n 3, [], 0), (.iconst 1, [], 0), (.iadd, [], 0), (.iaload, [], 0), (.invokevirtual 61, [145, 2, 1, 3, 6], 0), (.aload_n 2, [], 0), (.aload_n 0, [], 0), (.iload_n 3, [], 0), (.iconst 1, [], 0), (.iadd, [], 0), (.iaload, [], 0), (.invokevirtual 64, [31, 2, 1, 3, 7], 0), (.if_icmp .eq 671, [1187, 1, 1, 1, 1], 0), (.iconst 0, [], 0), (.ireturn, [1], 0)]),
  (521, [(.aload_n 1, [], 0), (.aload_n 0, [], 0), (.iload_n 3, [], 0), (.iconst 1, [], 0), (.iadd, [], 0), (.iaload, [], 0), (.aload_n 0, [], 0), (.iload_n 3, [], 0), (.iconst 2, [], 0), (.iadd, [], 0), (.iaload, [], 0), (.invokevirtual 65, [146, 3, 1, 5, 6], 0), (.aload_n 2, [], 0), (.aload_n 0, [], 0), (.iload_n 3, [], 0), (.iconst 1, [], 0), (.iadd, [], 0), (.iaload, [], 0), (.aload_n 0, [], 0), (.iload_n 3, [], 0), (.iconst 2, [], 0), (.iadd, [], 0), (.iaload, [], 0), (.invokevirtual 68, [33, 3, 1, 4, 7], 0), (.if_icmp .eq 638, [1187, 1, 1, 1, 1], 0), (.iconst 0, [], 0), (.ireturn, [1], 0)]),
  (554, [(.aload_n 1, [], 0), (.aload_n 0, [], 0), (.iload_n 3, [], 0), (.iconst 1, [], 0), (.iadd, [], 0), (.iaload, [], 0), (.aload_n 0, [], 0), (.iload_n 3, [], 0), (.iconst 2, [], 0), (.iadd, [], 0), (.iaload, [], 0), (.invokevirtual 69, [147, 3, 1, 4, 6], 0), (.aload_n 2, [], 0), (.aload_n 0, [], 0), (.iload_n 3, [], 0), (.iconst 1, [], 0), (.iadd, [], 0), (.iaload, [], 0), (.aload_n 0, [], 0), (.iload_n 3, [], 0), (.iconst 2, [], 0), (.iadd, [], 0), (.iaload, [], 0), (.invokevirtual 72, [34, 3, 1, 7, 7], 0), (.if_icmp .eq 605, [1187, 1, 1, 1, 1], 0), (.iconst 0, [], 0), (.ireturn, [1], 0)]),
  (587, [(.aload_n 1, [], 0), (.aload_n 0, [], 0), (.iload_n 3, [], 0), (.iconst 1, [], 0), (.iadd, [], 0), (.iaload, [], 0), (.invokevirtual 73, [148, 2, 1, 3, 6], 0), (.aload_n 2, [], 0), (.aload_n 0, [], 0), (.iload_n 3, [], 0), (.iconst 1, [], 0), (.iadd, [], 0), (.iaload, [], 0), (.invokevirtual 76, [39, 2, 1, 2, 7], 0), (.if_icmp .eq 582, [1187, 1, 1, 1, 1], 0), (.iconst 0, [], 0), (.ireturn, [1], 0)]),
  (610, [(.aload_n 1, [], 0), (.aload_n 0, [], 0), (.iload_n 3, [], 0), (.iconst 1, [], 0), (.iadd, [], 0), (.iaload, [], 0), (.aload_n 0, [], 0), (.iload_n 3, [], 0), (.iconst 2, [], 0), (.iadd, [], 0), (.iaload, [], 0), (.invokevirtual 77, [149, 3, 1, 8, 6], 0), (.aload_n 2, [], 0), (.aload_n 0, [], 0), (.iload_n 3, [], 0), (.iconst 1, [], 0), (.iadd, [], 0), (.iaload, [], 0), (.aload_n 0, [], 0), (.iload_n 3, [], 0), (.iconst 2, [], 0), (.iadd, [], 0), (.iaload, [], 0), (.invokevirtual 80, [45, 3, 1, 6, 7], 0), (.if_icmp .eq 549, [1187, 1, 1, 1, 1], 0), (.iconst 0, [], 0), (.ireturn, [1], 0)]),
  (643, [(.aload_n 1, [], 0), (.aload_n 0, [], 0), (.iload_n 3, [], 0), (.iconst 1, [], 0), (.iadd, [], 0), (.iaload, [], 0), (.invokevirtual 81, [150, 2, 1, 6, 6], 0), (.aload_n 2, [], 0), (.aload_n 0, [], 0), (.iload_n 3, [], 0), (.iconst 1, [], 0), (.iadd, [], 0), (.iaload, [], 0), (.invokevirtual 84, [47, 2, 1, 2, 7], 0), (.if_icmp .eq 526, [1187, 1, 1, 1, 1], 0), (.iconst 0, [], 0), (.ireturn, [1], 0)]),
  (666, [(.aload_n 1, [], 0), (.aload_n 0, [], 0), (.iload_n 3, [], 0), (.iconst 1, [], 0), (.iadd, [], 0), (.iaload, [], 0), (.aload_n 0, [], 0), (.iload_n 3, [], 0), (.iconst 2, [], 0), (.iadd, [], 0), (.iaload, [], 0), (.invokevirtual 85, [151, 3, 1, 8, 6], 0), (.aload_n 2, [], 0), (.aload_n 0, [], 0), (.iload_n 3, [], 0), (.iconst 1, [], 0), (.iadd, [], 0), (.iaload, [], 0), (.aload_n 0, [], 0), (.iload_n 3, [], 0), (.iconst 2, [], 0), (.iadd, [], 0), (.iaload, [], 0), (.invokevirtual 88, [50, 3, 1, 6, 7], 0), (.if_icmp .eq 493, [1187, 1, 1, 1, 1], 0), (.iconst 0, [], 0), (.ireturn, [1], 0)]),
  (699, [(.aload_n 1, [], 0), (.aload_n 0, [], 0), (.iload_n 3, [], 0), (.iconst 1, [], 0), (.iadd, [], 0), (.iaload, [], 0), (.aload_n 0, [], 0), (.iload_n 3, [], 0), (.iconst 2, [], 0), (.iadd, [], 0), (.iaload, [], 0), (.invokevirtual 89, [152, 3, 1, 3, 6], 0), (.aload_n 2, [], 0), (.aload_n 0, [], 0), (.iload_n 3, [], 0), (.iconst 1, [], 0), (.iadd, [], 0), (.iaload, [], 0), (.aload_n 0, [], 0), (.iload_n 3, [], 0), (.iconst 2, [], 0), (.iadd, [], 0), (.iaload, [], 0), (.invokevirtual 92, [53, 3, 1, 3, 7], 0), (.if_icmp .eq 460, [1187, 1, 1, 1, 1], 0), (.iconst 0, [], 0), (.ireturn, [1], 0)]),
  (732, [(.aload_n 1, [], 0), (.aload_n 0, [], 0), (.iload_n 3, [], 0), (.iconst 1, [], 0), (.iadd, [], 0), (.iaload, [], 0), (.invokevirtual 93, [153, 2, 1, 3, 6], 0), (.aload_n 2, [], 0), (.aload_n 0, [], 0), (.iload_n 3, [], 0), (.iconst 1, [], 0), (.iadd, [], 0), (.iaload, [], 0), (.invokevirtual 96, [55, 2, 1, 2, 7], 0), (.if_icmp .eq 437, [1187, 1, 1, 1, 1], 0), (.iconst 0, [], 0), (.ireturn, [1], 0)]),
  (755, [(.aload_n 1, [], 0), (.aload_n 0, [], 0), (.iload_n 3, [], 0), (.iconst 1, [], 0), (.iadd, [], 0), (.iaload, [], 0), (.invokevirtual 97, [154, 2, 1, 3, 6], 0), (.aload_n 2, [], 0), (.aload_n 0, [], 0), (.iload_n 3, [], 0), (.iconst 1, [], 0), (.iadd, [], 0), (.iaload, [], 0), (.invokevirtual 100, [56, 2, 1, 2, 7], 0), (.if_icmp .eq 414, [1187, 1, 1, 1, 1], 0), (.iconst 0, [], 0), (.ireturn, [1], 0)]),
  (778, [(.aload_n 1, [], 0), (.aload_n 0, [], 0), (.iload_n 3, [], 0), (.iconst 1, [], 0), (.iadd, [], 0), (.iaload, [], 0), (.aload_n 0, [], 0), (.iload_n 3, [], 0), (.iconst 2, [], 0), (.iadd, [], 0), (.iaload, [], 0), (.aload_n 0, [], 0), (.iload_n 3, [], 0), (.iconst 3, [], 0), (.iadd, [], 0), (.iaload, [], 0), (.aload_n 0, [], 0), (.iload_n 3, [], 0), (.iconst 4, [], 0), (.iadd, [], 0), (.iaload, [], 0), (.aload_n 0, [], 0), (.iload_n 3, [], 0), (.iconst 5, [], 0), (.iadd, [], 0), (.iaload, [], 0), (.invokevirtual 101, [155, 6, 2, 8, 6], 0), (.aload_n 2, [], 0), (.aload_n 0, [], 0), (.iload_n 3, [], 0), (.iconst 1, [], 0), (.iadd, [], 0), (.iaload, [], 0), (.aload_n 0, [], 0), (.iload_n 3, [], 0), (.iconst 2, [], 0), (.iadd, [], 0), (.iaload, [], 0), (.aload_n 0, [], 0), (.iload_n 3, [], 0), (.iconst 3, [], 0), (.iadd, [], 0), (.iaload, [], 0), (.aload_n 0, [], 0), (.iload_n 3, [], 0), (.iconst 4, [], 0), (.iadd, [], 0), (.iaload, [], 0), (.aload_n 0, [], 0), (.iload_n 3, [], 0), (.iconst 5, [], 0), (.iadd, [], 0), (.iaload, [], 0), (.invokevirtual 105, [58, 6, 2, 17, 7], 0), (.lcmp, [], 0), (.ifCond .eq 350, [1187, 1, 1, 1, 1], 0), (.iconst 0, [], 0), (.ireturn, [1], 0)]),
  (842, [(.aload_n 1, [], 0), (.aload_n 0, [], 0), (.iload_n 3, [], 0), (.iconst 1, [], 0), (.iadd, [], 0), (.iaload, [], 0), (.invokevirtual 106, [156, 2, 1, 2, 6], 0), (.aload_n 2, [], 0), (.aload_n 0, [], 0), (.iload_n 3, [], 0), (.iconst 1, [], 0), (.iadd, [], 0), (.iaload, [], 0), (.invokevirtual 109, [59, 2, 1, 3, 7], 0), (.if_icmp .eq 327, [1187, 1, 1, 1, 1], 0), (.iconst 0, [], 0), (.ireturn, [1], 0)]),
  (865, [(.aload_n 1, [], 0), (.invokevirtual 110, [157, 1, 1, 2, 6], 0), (.aload_n 2, [], 0), (.invokevirtual 113, [60, 1, 1, 2, 7], 0), (.if_icmp .eq 314, [1187, 1, 1, 1, 1], 0), (.iconst 0, [], 0), (.ireturn, [1], 0)]),
  (878, [(.aload_n 1, [], 0), (.invokevirtual 114, [158, 1, 1, 4, 6], 0), (.aload_n 2, [], 0), (.invokevirtual 117, [63, 1, 1, 1, 7], 0), (.if_icmp .eq 301, [1187, 1, 1, 1, 1], 0), (.iconst 0, [], 0), (.ireturn, [1], 0)]),
  (891, [(.aload_n 1, [], 0), (.aload_n 0, [], 0), (.iload_n 3, [], 0), (.iconst 1, [], 0), (.iadd, [], 0), (.iaload, [], 0), (.aload_n 0, [], 0), (.iload_n 3, [], 0), (.iconst 2, [], 0), (.iadd, [], 0), (.iaload, [], 0), (.invokevirtual 118, [159, 3, 1, 6, 6], 0), (.aload_n 2, [], 0), (.aload_n 0, [], 0), (.iload_n 3, [], 0), (.iconst 1, [], 0), (.iadd, [], 0), (.iaload, [], 0), (.aload_n 0, [], 0), (.iload_n 3, [], 0), (.iconst 2, [], 0), (.iadd, [], 0), (.iaload, [], 0), (.invokevirtual 121, [64, 3, 1, 8, 7], 0), (.if_icmp .eq 268, [1187, 1, 1, 1, 1], 0), (.iconst 0, [], 0), (.ireturn, [1], 0)]),
  (924, [(.aload_n 1, [], 0), (.aload_n 0, [], 0), (.iload_n 3, [], 0), (.iconst 1, [], 0), (.iadd, [], 0), (.iaload, [], 0), (.aload_n 0, [], 0), (.iload_n 3, [], 0), (.iconst 2, [], 0), (.iadd, [], 0), (.iaload, [], 0), (.invokevirtual 122, [160, 3, 2, 3, 6], 0), (.aload_n 2, [], 0), (.aload_n 0, [], 0), (.iload_n 3, [], 0), (.iconst 1, [], 0), (.iadd, [], 0), (.iaload, [], 0), (.aload_n 0, [], 0), (.iload_n 3, [], 0), (.iconst 2, [], 0), (.iadd, [], 0), (.iaload, [], 0), (.invokevirtual 126, [65, 3, 2, 8, 7], 0), (.lcmp, [], 0), (.ifCond .eq 234, [1187, 1, 1, 1, 1], 0), (.iconst 0, [], 0), (.ireturn, [1], 0)]),
  (958, [(.aload_n 1, [], 0), (.aload_n 0, [], 0), (.iload_n 3, [], 0), (.iconst 1, [], 0), (.iadd, [], 0), (.iaload, [], 0), (.aload_n 0, [], 0), (.iload_n 3, [], 0), (.iconst 2, [], 0), (.iadd, [], 0), (.iaload, [], 0), (.invokevirtual 127, [161, 3, 1, 5, 6], 0), (.aload_n 2, [], 0), (.aload_n 0, [], 0), (.iload_n 3, [], 0), (.iconst 1, [], 0), (.iadd, [], 0), (.iaload, [], 0), (.aload_n 0, [], 0), (.iload_n 3, [], 0), (.iconst 2, [], 0), (.iadd, [], 0), (.iaload, [], 0), (.invokevirtual 130, [68, 3, 1, 3, 7], 0), (.if_icmp .eq 201, [1187, 1, 1, 1, 1], 0), (.iconst 0, [], 0), (.ireturn, [1], 0)]),
  (991, [(.aload_n 1, [], 0), (.aload_n 0, [], 0), (.iload_n 3, [], 0), (.iconst 1, [], 0), (.iadd, [], 0), (.iaload, [], 0), (.invokevirtual 131, [162, 2, 1, 8, 6], 0), (.aload_n 2, [], 0), (.aload_n 0, [], 0), (.iload_n 3, [], 0), (.iconst 1, [], 0), (.iadd, [], 0), (.iaload, [], 0), (.invokevirtual 134, [69, 2, 1, 7, 7], 0), (.if_icmp .eq 178, [1187, 1, 1, 1, 1], 0), (.iconst 0, [], 0), (.ireturn, [1], 0)]),
  (1014, [(.aload_n 1, [], 0), (.aload_n 0, [], 0), (.iload_n 3, [], 0), (.iconst 1, [], 0), (.iadd, [], 0), (.iaload, [], 0), (.aload_n 0, [], 0), (.iload_n 3, [], 0), (.iconst 2, [], 0), (.iadd, [], 0), (.iaload, [], 0), (.aload_n 0, [], 0), (.iload_n 3, [], 0), (.iconst 3, [], 0), (.iadd, [], 0), (.iaload, [], 0), (.aload_n 0, [], 0), (.iload_n 3, [], 0), (.iconst 4, [], 0), (.iadd, [], 0), (.iaload, [], 0), (.invokevirtual 135, [163, 5, 2, 8, 6], 0), (.aload_n 2, [], 0), (.aload_n 0, [], 0), (.iload_n 3, [], 0), (.iconst 1, [], 0), (.iadd, [], 0), (.iaload, [], 0), (.aload_n 0, [], 0), (.iload_n 3, [], 0), (.iconst 2, [], 0), (.iadd, [], 0), (.iaload, [], 0), (.aload_n 0, [], 0), (.iload_n 3, [], 0), (.iconst 3, [], 0), (.iadd, [], 0), (.iaload, [], 0), (.aload_n 0, [], 0), (.iload_n 3, [], 0), (.iconst 4, [], 0), (.iadd, [], 0), (.iaload, [], 0), (.invokevirtual 139, [70, 5, 2, 10, 7], 0), (.lcmp, [], 0), (.ifCond .eq 124, [1187, 1, 1, 1, 1], 0), (.iconst 0, [], 0), (.ireturn, [1], 0)]),
  (1068, [(.aload_n 1, [], 0), (.aload_n 0, [], 0), (.iload_n 3, [], 0), (.iconst 1, [], 0), (.iadd, [], 0), (.iaload, [], 0), (.aload_n 0, [], 0), (.iload_n 3, [], 0), (.iconst 2, [], 0), (.iadd, [], 0), (.iaload, [], 0), (.invokevirtual 140, [164, 3, 1, 4, 6], 0), (.aload_n 2, [], 0), (.aload_n 0, [], 0), (.iload_n 3, [], 0), (.iconst 1, [], 0), (.iadd, [], 0), (.iaload, [], 0), (.aload_n 0, [], 0), (.iload_n 3, [], 0), (.iconst 2, [], 0), (.iadd, [], 0), (.iaload, [], 0), (.invokevirtual 143, [72, 3, 1, 3, 7], 0), (.if_icmp .eq 91, [1187, 1, 1, 1, 1], 0), (.iconst 0, [], 0), (.ireturn, [1], 0)]),
  (1101, [(.aload_n 1, [], 0), (.aload_n 0, [], 0), (.iload_n 3, [], 0), (.iconst 1, [], 0), (.iadd, [], 0), (.iaload, [], 0), (.invokevirtual 144, [165, 2, 1, 5, 6], 0), (.aload_n 2, [], 0), (.aload_n 0, [], 0), (.iload_n 3, [], 0), (.iconst 1, [], 0), (.iadd, [], 0), (.iaload, [], 0), (.invokevirtual 147, [74, 2, 1, 2, 7], 0), (.if_icmp .eq 68, [1187, 1, 1, 1, 1], 0), (.iconst 0, [], 0), (.ireturn, [1], 0)]),
  (1124, [(.aload_n 1, [], 0), (.invokevirtual 148, [166, 1, 1, 1, 6], 0), (.aload_n 2, [], 0), (.invokevirtual 151, [75, 1, 1, 2, 7], 0), (.if_icmp .eq 55, [1187, 1, 1, 1, 1], 0), (.iconst 0, [], 0), (.ireturn, [1], 0)]),
  (1137, [(.aload_n 1, [], 0), (.invokevirtual 152, [167, 1, 1, 2, 6], 0), (.aload_n 2, [], 0), (.invokevirtual 155, [76, 1, 1, 2, 7], 0), (.if_icmp .eq 42, [1187, 1, 1, 1, 1], 0), (.iconst 0, [], 0), (.ireturn, [1], 0)]),
  (1150, [(.aload_n 1, [], 0), (.aload_n 0, [], 0), (.iload_n 3, [], 0), (.iconst 1, [], 0), (.iadd, [], 0), (.iaload, [], 0), (.invokevirtual 156, [168, 2, 1, 2, 6], 0), (.aload_n 2, [], 0), (.aload_n 0, [], 0), (.iload_n 3, [], 0), (.iconst 1, [], 0), (.iadd, [], 0), (.iaload, [], 0), (.invokevirtual 159, [78, 2, 1, 2, 7], 0), (.if_icmp .eq 19, [1187, 1, 1, 1, 1], 0), (.iconst 0, [], 0), (.ireturn, [1], 0)]),
  (1173, [(.aload_n 1, [], 0), (.invokevirtual 160, [169, 1, 2, 5, 6], 0), (.aload_n 2, [], 0), (.invokevirtual 164, [81, 1, 2, 3, 7], 0), (.lcmp, [], 0), (.ifCond .eq 5, [1187, 1, 1, 1, 1], 0), (.iconst 0, [], 0), (.ireturn, [1], 0)]),
  (1187, [(.iinc 3 6, [], 0), (.goto (-1172), [18, 1, 1, 1, 1], 0)]),
  (1193, [(.iconst 1, [], 0), (.ireturn, [1], 0)])]
/-- MindReadersModel.<init>()V -/
def zc_1 : List (Nat × List zE) := [(0, [(.aload_n 0, [], 0), (.invokespecial 1, [], 0), (.aload_n 0, [], 0), (.bipush 48, [], 0), (.newarray .int, [0], 0), (.putfield 7, [7, 0, 2], 0), (.aload_n 0, [], 0), (.bipush 48, [], 0), (.newarray .int, [0], 0), (.putfield 13, [7, 4, 2], 0), (.aload_n 0, [], 0), (.iconst 4, [], 0), (.newarray .int, [0], 0), (.putfield 16, [7, 6, 2], 0), (.aload_n 0, [], 0), (.sipush 192, [], 0), (.newarray .int, [0], 0), (.putfield 19, [7, 7, 2], 0), (.aload_n 0, [], 0), (.bipush 32, [], 0), (.newarray .int, [0], 0), (.putfield 22, [7, 9, 2], 0), (.aload_n 0, [], 0), (.bipush 8, [], 0), (.newarray .int, [0], 0), (.putfield 25, [7, 11, 2], 0), (.aload_n 0, [], 0), (.bipush 96, [], 0), (.newarray .int, [0], 0), (.putfield 28, [7, 12, 2], 0), (.aload_n 0, [], 0), (.bipush 88, [], 0), (.newarray .int, [0], 0), (.putfield 31, [7, 14, 2], 0), (.aload_n 0, [], 0), (.bipush 88, [], 0), (.newarray .int, [0], 0), (.putfield 34, [7, 15, 2], 0), (.aload_n 0, [], 0), (.bipush 16, [], 0), (.newarray .int, [0], 0), (.putfield 37, [7, 17, 2], 0), (.aload_n 0, [], 0), (.bipush 100, [], 0), (.newarray .int, [0], 0), (.putfield 40, [7, 19, 2], 0), (.aload_n 0, [], 0), (.sipush 256, [], 0), (.newarray .long, [1], 0), (.putfield 43, [7, 20, 2], 0), (.aload_n 0, [], 0), (.sipush 256, [], 0), (.newarray .long, [1], 0), (.putfield 47, [7, 21, 2], 0), (.aload_n 0, [], 0), (.bipush 8, [], 0), (.newarray .int, [0], 0), (.putfield 50, [7, 24, 2], 0), (.aload_n 0, [], 0), (.bipush 100, [], 0), (.newarray .int, [0], 0), (.putfield 53, [7, 25, 2], 0), (.aload_n 0, [], 0), (.iconst (-1), [], 0), (.putfield 56, [7, 22, 0], 0), (.return_, [], 0)])]
/-- MindReadersModel.in(JJJ)Z -/
def zc_2 : List (Nat × List zE) := [(0, [(.lload_n 0, [], 0), (.lload_n 2, [], 0), (.lcmp, [], 0), (.ifCond .lt 14, [17], 0), (.lload_n 0, [], 0), (.lload 4, [], 0), (.lcmp, [], 0), (.ifCond .gt 7, [17], 0), (.iconst 1, [], 0), (.goto 4, [18], 0)]),
  (17, [(.iconst 0, [], 0), (.nop, [18], 0)]),
  (18, [(.ireturn, [1], 0)])]
/-- MindReadersModel.letters(J)I -/
def zc_3 : List (Nat × List zE) := [(0, [(.iconst 0, [], 0), (.istore_n 3, [], 0), (.iconst 1, [], 0), (.istore 4, [], 0), (.lload_n 1, [], 0), (.lstore 5, [], 0), (.iconst 0, [], 0), (.istore 7, [], 0), (.nop, [11, 1, 1, 0, 1, 1, 1, 0, 1], 0)]),
  (11, [(.iload 7, [], 0), (.bipush 8, [], 0), (.if_icmp .ge 68, [83, 1, 1, 0, 1, 1], 0), (.lload 5, [], 0), (.ldc2_w 60, [], 255), (.land, [], 0), (.l2i, [], 0), (.istore 8, [], 0), (.lload 5, [], 0), (.bipush 8, [], 0), (.lushr, [], 0), (.lstore 5, [], 0), (.iload 4, [], 0), (.ifCond .eq 25, [61, 1, 1, 0, 1, 0, 1, 0, 1, 1], 0), (.iload 8, [], 0), (.bipush 126, [], 0), (.if_icmp .gt 18, [61, 1, 1, 0, 1, 0, 1, 0, 1, 1], 0), (.iload 8, [], 0), (.ifCond .eq 9, [57, 1, 1, 0, 1, 0, 1, 0, 1, 1], 0), (.iload_n 3, [], 0), (.iload 7, [], 0), (.if_icmp .ne 7, [61, 1, 1, 0, 1, 0, 1, 0, 1, 1], 0), (.nop, [57, 1, 1, 0, 1, 0, 1, 0, 1, 1], 0)]),
  (57, [(.iconst 1, [], 0), (.goto 4, [62, 1, 1, 0, 1, 0, 1, 0, 1, 1], 0)]),
  (61, [(.iconst 0, [], 0), (.nop, [62, 1, 1, 0, 1, 0, 1, 0, 1, 1], 0)]),
  (62, [(.istore 4, [], 0), (.iload_n 3, [], 0), (.iload 8, [], 0), (.ifCond .le 7, [74, 1, 1, 0, 0, 1, 1, 0, 1], 0), (.iconst 1, [], 0), (.goto 4, [75, 1, 1, 0, 0, 1, 1, 0, 1], 0)]),
  (74, [(.iconst 0, [], 0), (.nop, [75, 1, 1, 0, 0, 1, 1, 0, 1], 0)]),
  (75, [(.iadd, [], 0), (.istore_n 3, [], 0), (.iinc 7 1, [], 0), (.goto (-69), [11, 1, 1, 0, 1, 1, 1, 0, 1], 0)]),
  (83, [(.iload 4, [], 0), (.ifCond .ne 6, [91, 1, 1, 0, 1], 0), (.bipush (-102), [], 0), (.ireturn, [0], 0)]),
  (91, [(.aload_n 0, [], 0), (.getfield 62, [7, 1, 0], 0), (.iload_n 3, [], 0), (.iadd, [], 0), (.bipush 48, [], 0), (.if_icmp .le 6, [105, 1, 1, 0, 1], 0), (.bipush (-104), [], 0), (.ireturn, [0], 0)]),
  (105, [(.iconst 0, [], 0), (.istore 7, [], 0), (.nop, [108, 1, 1, 0, 1, 0, 0, 0, 1], 0)]),
  (108, [(.iload 7, [], 0), (.iload_n 3, [], 0), (.if_icmp .ge 40, [151, 1], 0), (.aload_n 0, [], 0), (.getfield 7, [7, 0, 2], 0), (.aload_n 0, [], 0), (.getfield 62, [7, 1, 0], 0), (.lload_n 1, [], 0), (.bipush 8, [], 0), (.iload 7, [], 0), (.imul, [], 0), (.lushr, [], 0), (.ldc2_w 60, [], 255), (.land, [], 0), (.l2i, [], 0), (.iastore, [], 0), (.aload_n 0, [], 0), (.dup, [], 0), (.getfield 62, [7, 1, 0], 0), (.iconst 1, [], 0), (.iadd, [], 0), (.putfield 62, [7, 1, 0], 0), (.iinc 7 1, [], 0), (.goto (-40), [108, 1, 1, 0, 1, 0, 0, 0, 1], 0)]),
  (151, [(.aload_n 0, [], 0), (.getfield 62, [7, 1, 0], 0), (.ireturn, [0], 0)])]
/-- MindReadersModel.blank()I -/
def zc_4 : List (Nat × List zE) := [(0, [(.aload_n 0, [], 0), (.getfield 62, [7, 1, 0], 0), (.istore_n 1, [], 0), (.aload_n 0, [], 0), (.iconst 0, [], 0), (.putfield 62, [7, 1, 0], 0), (.iload_n 1, [], 0), (.ireturn, [0], 0)])]
/-- MindReadersModel.go(I)Z -/
def zc_5 : List (Nat × List zE) := [(0, [(.iload_n 1, [], 0), (.bipush 44, [], 0), (.if_icmp .ne 42, [45, 1, 1], 0), (.aload_n 0, [], 0), (.getfield 65, [7, 3, 0], 0), (.ifCond .le 16, [26, 1], 0), (.aload_n 0, [], 0), (.getfield 68, [7, 2, 0], 0), (.bipush 7, [], 0), (.if_icmp .ge 7, [26, 1], 0), (.iconst 1, [], 0), (.goto 4, [27, 1], 0)]),
  (26, [(.iconst 0, [], 0), (.nop, [27, 1], 0)]),
  (27, [(.istore_n 2, [], 0), (.aload_n 0, [], 0), (.dup, [], 0), (.getfield 68, [7, 2, 0], 0), (.iconst 1, [], 0), (.iadd, [], 0), (.putfield 68, [7, 2, 0], 0), (.aload_n 0, [], 0), (.iconst 0, [], 0), (.putfield 65, [7, 3, 0], 0), (.iload_n 2, [], 0), (.ireturn, [1], 0)]),
  (45, [(.iload_n 1, [], 0), (.i2l, [], 0), (.ldc2_w 71, [], 97), (.ldc2_w 73, [], 104), (.invokestatic 75, [2, 3, 1, 6], 0), (.ifCond .eq 15, [71, 1, 1], 0), (.aload_n 0, [], 0), (.getfield 65, [7, 3, 0], 0), (.iconst 5, [], 0), (.if_icmp .ge 7, [71, 1, 1], 0), (.iconst 1, [], 0), (.goto 4, [72, 1, 1], 0)]),
  (71, [(.iconst 0, [], 0), (.nop, [72, 1, 1], 0)]),
  (72, [(.istore_n 2, [], 0), (.iload_n 2, [], 0), (.ifCond .eq 50, [124, 0, 0, 1], 0), (.aload_n 0, [], 0), (.dup, [], 0), (.getfield 65, [7, 3, 0], 0), (.iconst 1, [], 0), (.iadd, [], 0), (.putfield 65, [7, 3, 0], 0), (.aload_n 0, [], 0), (.getfield 13, [7, 4, 2], 0), (.bipush 6, [], 0), (.aload_n 0, [], 0), (.getfield 68, [7, 2, 0], 0), (.imul, [], 0), (.aload_n 0, [], 0), (.getfield 65, [7, 3, 0], 0), (.iastore, [], 0), (.aload_n 0, [], 0), (.getfield 13, [7, 4, 2], 0), (.bipush 6, [], 0), (.aload_n 0, [], 0), (.getfield 68, [7, 2, 0], 0), (.imul, [], 0), (.aload_n 0, [], 0), (.getfield 65, [7, 3, 0], 0), (.iadd, [], 0), (.iload_n 1, [], 0), (.bipush 97, [], 0), (.isub, [], 0), (.iastore, [], 0), (.nop, [124, 0, 0, 1], 0)]),
  (124, [(.iload_n 2, [], 0), (.ireturn, [1], 0)])]
/-- MindReadersModel.faultOf()I -/
def zc_6 : List (Nat × List zE) := [(0, [(.aload_n 0, [], 0), (.iconst 0, [], 0), (.putfield 68, [7, 2, 0], 0), (.aload_n 0, [], 0), (.iconst 0, [], 0), (.putfield 65, [7, 3, 0], 0), (.iconst 0, [], 0), (.istore_n 1, [], 0), (.nop, [12, 1, 1], 0)]),
  (12, [(.iload_n 1, [], 0), (.aload_n 0, [], 0), (.getfield 62, [7, 1, 0], 0), (.if_icmp .ge 22, [39, 0, 1], 0), (.aload_n 0, [], 0), (.aload_n 0, [], 0), (.getfield 7, [7, 0, 2], 0), (.iload_n 1, [], 0), (.iaload, [], 0), (.invokevirtual 79, [5, 2, 1, 3, 7], 0), (.ifCond .eq 9, [39, 0, 1], 0), (.iinc 1 1, [], 0), (.goto (-24), [12, 1, 1], 0)]),
  (39, [(.iload_n 1, [], 0), (.ireturn, [0], 0)])]
/-- MindReadersModel.fault()I -/
def zc_7 : List (Nat × List zE) := [(0, [(.aload_n 0, [], 0), (.invokevirtual 83, [6, 1, 1, 2, 7], 0), (.ireturn, [0], 0)])]
/-- MindReadersModel.code()I -/
def zc_8 : List (Nat × List zE) := [(0, [(.aload_n 0, [], 0), (.invokevirtual 83, [6, 1, 1, 2, 7], 0), (.aload_n 0, [], 0), (.getfield 62, [7, 1, 0], 0), (.if_icmp .lt 10, [18], 0), (.aload_n 0, [], 0), (.getfield 65, [7, 3, 0], 0), (.ifCond .ne 6, [21, 1], 0), (.nop, [18], 0)]),
  (18, [(.bipush (-103), [], 0), (.ireturn, [0], 0)]),
  (21, [(.aload_n 0, [], 0), (.getfield 87, [7, 5, 0], 0), (.iconst 4, [], 0), (.if_icmp .ne 6, [32, 1], 0), (.bipush (-104), [], 0), (.ireturn, [0], 0)]),
  (32, [(.aload_n 0, [], 0), (.getfield 16, [7, 6, 2], 0), (.aload_n 0, [], 0), (.getfield 87, [7, 5, 0], 0), (.aload_n 0, [], 0), (.getfield 68, [7, 2, 0], 0), (.iconst 1, [], 0), (.iadd, [], 0), (.iastore, [], 0), (.iconst 0, [], 0), (.istore_n 1, [], 0), (.nop, [49, 1, 1], 0)]),
  (49, [(.iload_n 1, [], 0), (.bipush 48, [], 0), (.if_icmp .ge 29, [81, 1], 0), (.aload_n 0, [], 0), (.getfield 19, [7, 7, 2], 0), (.bipush 48, [], 0), (.aload_n 0, [], 0), (.getfield 87, [7, 5, 0], 0), (.imul, [], 0), (.iload_n 1, [], 0), (.iadd, [], 0), (.aload_n 0, [], 0), (.getfield 13, [7, 4, 2], 0), (.iload_n 1, [], 0), (.iaload, [], 0), (.iastore, [], 0), (.iinc 1 1, [], 0), (.goto (-29), [49, 1, 1], 0)]),
  (81, [(.aload_n 0, [], 0), (.dup, [], 0), (.getfield 87, [7, 5, 0], 0), (.iconst 1, [], 0), (.iadd, [], 0), (.putfield 87, [7, 5, 0], 0), (.aload_n 0, [], 0), (.iconst 0, [], 0), (.putfield 62, [7, 1, 0], 0), (.aload_n 0, [], 0), (.getfield 87, [7, 5, 0], 0), (.iconst 1, [], 0), (.isub, [], 0), (.ireturn, [0], 0)])]
/-- MindReadersModel.isCode(I)Z -/
def zc_9 : List (Nat × List zE) := [(0, [(.iload_n 1, [], 0), (.i2l, [], 0), (.lconst 0, [], 0), (.aload_n 0, [], 0), (.getfield 87, [7, 5, 0], 0), (.iconst 1, [], 0), (.isub, [], 0), (.i2l, [], 0), (.invokestatic 75, [2, 3, 1, 6], 0), (.ireturn, [1], 0)])]
/-- MindReadersModel.signal(IIII)I -/
def zc_10 : List (Nat × List zE) := [(0, [(.iload_n 1, [], 0), (.i2l, [], 0), (.lconst 0, [], 0), (.ldc2_w 90, [], 4), (.invokestatic 75, [2, 3, 1, 6], 0), (.ifCond .ne 6, [15, 1, 1, 1, 1, 1], 0), (.bipush (-102), [], 0), (.ireturn, [0], 0)]),
  (15, [(.iload_n 1, [], 0), (.iconst 2, [], 0), (.if_icmp .ne 39, [56, 1, 1, 1, 1, 1], 0), (.iload_n 2, [], 0), (.i2l, [], 0), (.lconst 0, [], 0), (.aload_n 0, [], 0), (.getfield 92, [7, 8, 0], 0), (.iconst 1, [], 0), (.isub, [], 0), (.i2l, [], 0), (.invokestatic 75, [2, 3, 1, 6], 0), (.ifCond .eq 19, [52, 1, 1, 1, 1, 1], 0), (.aload_n 0, [], 0), (.getfield 22, [7, 9, 2], 0), (.iconst 4, [], 0), (.iload_n 2, [], 0), (.imul, [], 0), (.iaload, [], 0), (.iconst 2, [], 0), (.if_icmp .ge 7, [52, 1, 1, 1, 1, 1], 0), (.iconst 1, [], 0), (.goto 17, [66, 1, 1, 1, 1, 1], 0)]),
  (52, [(.iconst 0, [], 0), (.goto 13, [66, 1, 1, 1, 1, 1], 0)]),
  (56, [(.iload_n 2, [], 0), (.iconst (-1), [], 0), (.if_icmp .ne 7, [65, 1, 1, 1, 1, 1], 0), (.iconst 1, [], 0), (.goto 4, [66, 1, 1, 1, 1, 1], 0)]),
  (65, [(.iconst 0, [], 0), (.nop, [66, 1, 1, 1, 1, 1], 0)]),
  (66, [(.istore 5, [], 0), (.iload 5, [], 0), (.ifCond .ne 6, [76, 1, 1, 1, 1, 1], 0), (.bipush (-101), [], 0), (.ireturn, [0], 0)]),
  (76, [(.iload_n 3, [], 0), (.i2l, [], 0), (.lconst 1, [], 0), (.ldc2_w 95, [], 9), (.invokestatic 75, [2, 3, 1, 6], 0), (.ifCond .eq 16, [101], 0), (.iload 4, [], 0), (.i2l, [], 0), (.lconst 0, [], 0), (.ldc2_w 95, [], 9), (.invokestatic 75, [2, 3, 1, 6], 0), (.ifCond .ne 6, [104, 1, 1, 1, 1, 1], 0), (.nop, [101], 0)]),
  (101, [(.bipush (-102), [], 0), (.ireturn, [0], 0)]),
  (104, [(.aload_n 0, [], 0), (.getfield 92, [7, 8, 0], 0), (.bipush 8, [], 0), (.if_icmp .ne 6, [116, 1, 1, 1, 1, 1], 0), (.bipush (-104), [], 0), (.ireturn, [0], 0)]),
  (116, [(.aload_n 0, [], 0), (.getfield 22, [7, 9, 2], 0), (.iconst 4, [], 0), (.aload_n 0, [], 0), (.getfield 92, [7, 8, 0], 0), (.imul, [], 0), (.iload_n 1, [], 0), (.iastore, [], 0), (.aload_n 0, [], 0), (.getfield 22, [7, 9, 2], 0), (.iconst 4, [], 0), (.aload_n 0, [], 0), (.getfield 92, [7, 8, 0], 0), (.imul, [], 0), (.iconst 1, [], 0), (.iadd, [], 0), (.iload_n 2, [], 0), (.iastore, [], 0), (.aload_n 0, [], 0), (.getfield 22, [7, 9, 2], 0), (.iconst 4, [], 0), (.aload_n 0, [], 0), (.getfield 92, [7, 8, 0], 0), (.imul, [], 0), (.iconst 2, [], 0), (.iadd, [], 0), (.iload_n 3, [], 0), (.iastore, [], 0), (.aload_n 0, [], 0), (.getfield 22, [7, 9, 2], 0), (.iconst 4, [], 0), (.aload_n 0, [], 0), (.getfield 92, [7, 8, 0], 0), (.imul, [], 0), (.iconst 3, [], 0), (.iadd, [], 0), (.iload 4, [], 0), (.iastore, [], 0), (.aload_n 0, [], 0), (.dup, [], 0), (.getfield 92, [7, 8, 0], 0), (.iconst 1, [], 0), (.iadd, [], 0), (.putfield 92, [7, 8, 0], 0), (.aload_n 0, [], 0), (.getfield 92, [7, 8, 0], 0), (.iconst 1, [], 0), (.isub, [], 0), (.ireturn, [0], 0)])]
/-- MindReadersModel.isSignal(I)Z -/
def zc_11 : List (Nat × List zE) := [(0, [(.iload_n 1, [], 0), (.i2l, [], 0), (.lconst 0, [], 0), (.aload_n 0, [], 0), (.getfield 92, [7, 8, 0], 0), (.iconst 1, [], 0), (.isub, [], 0), (.i2l, [], 0), (.invokestatic 75, [2, 3, 1, 6], 0), (.ireturn, [1], 0)])]
/-- MindReadersModel.as(II)I -/
def zc_12 : List (Nat × List zE) := [(0, [(.aload_n 0, [], 0), (.iload_n 1, [], 0), (.invokevirtual 97, [11, 2, 1, 2, 7], 0), (.ifCond .ne 6, [11, 1, 1, 1], 0), (.bipush (-101), [], 0), (.ireturn, [0], 0)]),
  (11, [(.iload_n 2, [], 0), (.i2l, [], 0), (.lconst 0, [], 0), (.ldc2_w 90, [], 4), (.invokestatic 75, [2, 3, 1, 6], 0), (.ifCond .ne 6, [26, 1, 1, 1], 0), (.bipush (-102), [], 0), (.ireturn, [0], 0)]),
  (26, [(.aload_n 0, [], 0), (.getfield 22, [7, 9, 2], 0), (.iconst 4, [], 0), (.iload_n 1, [], 0), (.imul, [], 0), (.iaload, [], 0), (.istore_n 3, [], 0), (.iload_n 2, [], 0), (.ifCond .eq 18, [54, 0, 1], 0), (.iload_n 2, [], 0), (.iload_n 3, [], 0), (.if_icmp .eq 13, [54, 0, 1], 0), (.iload_n 2, [], 0), (.iconst 1, [], 0), (.if_icmp .ne 12, [58, 0, 1], 0), (.iload_n 3, [], 0), (.iconst 2, [], 0), (.if_icmp .ne 7, [58, 0, 1], 0), (.nop, [54, 0, 1], 0)]),
  (54, [(.iconst 1, [], 0), (.goto 4, [59, 0, 1], 0)]),
  (58, [(.iconst 0, [], 0), (.nop, [59, 0, 1], 0)]),
  (59, [(.istore 4, [], 0), (.iload 4, [], 0), (.ifCond .eq 7, [70], 0), (.iload_n 1, [], 0), (.goto 4, [71], 0)]),
  (70, [(.iconst (-1), [], 0), (.nop, [71], 0)]),
  (71, [(.ireturn, [0], 0)])]
/-- MindReadersModel.about(II)I -/
def zc_13 : List (Nat × List zE) := [(0, [(.aload_n 0, [], 0), (.iload_n 1, [], 0), (.invokevirtual 97, [11, 2, 1, 2, 7], 0), (.ifCond .ne 6, [11, 1, 1, 1], 0), (.bipush (-101), [], 0), (.ireturn, [0], 0)]),
  (11, [(.iload_n 2, [], 0), (.i2l, [], 0), (.lconst 0, [], 0), (.ldc2_w 100, [], 3), (.invokestatic 75, [2, 3, 1, 6], 0), (.ifCond .eq 16, [36], 0), (.aload_n 0, [], 0), (.getfield 22, [7, 9, 2], 0), (.iconst 4, [], 0), (.iload_n 1, [], 0), (.imul, [], 0), (.iload_n 2, [], 0), (.iadd, [], 0), (.iaload, [], 0), (.goto 5, [38], 0)]),
  (36, [(.bipush (-102), [], 0), (.nop, [38], 0)]),
  (38, [(.ireturn, [0], 0)])]
/-- MindReadersModel.thing(I)I -/
def zc_14 : List (Nat × List zE) := [(0, [(.iload_n 1, [], 0), (.i2l, [], 0), (.lconst 1, [], 0), (.ldc2_w 102, [], 99), (.invokestatic 75, [2, 3, 1, 6], 0), (.ifCond .ne 6, [15, 1, 1], 0), (.bipush (-102), [], 0), (.ireturn, [0], 0)]),
  (15, [(.aload_n 0, [], 0), (.getfield 104, [7, 10, 0], 0), (.bipush 8, [], 0), (.if_icmp .ne 6, [27, 1, 1], 0), (.bipush (-104), [], 0), (.ireturn, [0], 0)]),
  (27, [(.aload_n 0, [], 0), (.getfield 25, [7, 11, 2], 0), (.aload_n 0, [], 0), (.getfield 104, [7, 10, 0], 0), (.iload_n 1, [], 0), (.iastore, [], 0), (.aload_n 0, [], 0), (.dup, [], 0), (.getfield 104, [7, 10, 0], 0), (.iconst 1, [], 0), (.iadd, [], 0), (.putfield 104, [7, 10, 0], 0), (.aload_n 0, [], 0), (.getfield 104, [7, 10, 0], 0), (.iconst 1, [], 0), (.isub, [], 0), (.ireturn, [0], 0)])]
/-- MindReadersModel.isThing(I)Z -/
def zc_15 : List (Nat × List zE) := [(0, [(.iload_n 1, [], 0), (.i2l, [], 0), (.lconst 0, [], 0), (.aload_n 0, [], 0), (.getfield 104, [7, 10, 0], 0), (.iconst 1, [], 0), (.isub, [], 0), (.i2l, [], 0), (.invokestatic 75, [2, 3, 1, 6], 0), (.ireturn, [1], 0)])]
/-- MindReadersModel.weigh(II)I -/
def zc_16 : List (Nat × List zE) := [(0, [(.aload_n 0, [], 0), (.iload_n 1, [], 0), (.invokevirtual 107, [15, 2, 1, 2, 7], 0), (.ifCond .ne 6, [11, 1, 1, 1], 0), (.bipush (-101), [], 0), (.ireturn, [0], 0)]),
  (11, [(.iload_n 2, [], 0), (.i2l, [], 0), (.lconst 1, [], 0), (.ldc2_w 102, [], 99), (.invokestatic 75, [2, 3, 1, 6], 0), (.ifCond .ne 6, [26, 1, 1, 1], 0), (.bipush (-102), [], 0), (.ireturn, [0], 0)]),
  (26, [(.aload_n 0, [], 0), (.getfield 25, [7, 11, 2], 0), (.iload_n 1, [], 0), (.iaload, [], 0), (.istore_n 3, [], 0), (.aload_n 0, [], 0), (.getfield 25, [7, 11, 2], 0), (.iload_n 1, [], 0), (.iload_n 2, [], 0), (.iastore, [], 0), (.iload_n 3, [], 0), (.ireturn, [0], 0)])]
/-- MindReadersModel.kindOf(I)I -/
def zc_17 : List (Nat × List zE) := [(0, [(.aload_n 0, [], 0), (.iload_n 1, [], 0), (.invokevirtual 97, [11, 2, 1, 2, 7], 0), (.ifCond .eq 14, [19], 0), (.aload_n 0, [], 0), (.getfield 22, [7, 9, 2], 0), (.iconst 4, [], 0), (.iload_n 1, [], 0), (.imul, [], 0), (.iaload, [], 0), (.goto 4, [20], 0)]),
  (19, [(.iconst 0, [], 0), (.nop, [20], 0)]),
  (20, [(.ireturn, [0], 0)])]
/-- MindReadersModel.secondsOf(I)I -/
def zc_18 : List (Nat × List zE) := [(0, [(.aload_n 0, [], 0), (.iload_n 1, [], 0), (.invokevirtual 97, [11, 2, 1, 2, 7], 0), (.ifCond .eq 16, [21], 0), (.aload_n 0, [], 0), (.getfield 22, [7, 9, 2], 0), (.iconst 4, [], 0), (.iload_n 1, [], 0), (.imul, [], 0), (.iconst 2, [], 0), (.iadd, [], 0), (.iaload, [], 0), (.goto 4, [22], 0)]),
  (21, [(.iconst 1, [], 0), (.nop, [22], 0)]),
  (22, [(.ireturn, [0], 0)])]
/-- MindReadersModel.oddOf(I)I -/
def zc_19 : List (Nat × List zE) := [(0, [(.aload_n 0, [], 0), (.iload_n 1, [], 0), (.invokevirtual 97, [11, 2, 1, 2, 7], 0), (.ifCond .eq 16, [21], 0), (.aload_n 0, [], 0), (.getfield 22, [7, 9, 2], 0), (.iconst 4, [], 0), (.iload_n 1, [], 0), (.imul, [], 0), (.iconst 3, [], 0), (.iadd, [], 0), (.iaload, [], 0), (.goto 4, [22], 0)]),
  (21, [(.iconst 0, [], 0), (.nop, [22], 0)]),
  (22, [(.ireturn, [0], 0)])]
/-- MindReadersModel.stand(I)V -/
def zc_20 : List (Nat × List zE) := [(0, [(.aload_n 0, [], 0), (.iload_n 1, [], 0), (.invokevirtual 110, [17, 2, 1, 2, 7], 0), (.istore_n 2, [], 0), (.iload_n 2, [], 0), (.iconst 2, [], 0), (.if_icmp .ge 26, [34, 1, 1, 1], 0), (.aload_n 0, [], 0), (.getfield 28, [7, 12, 2], 0), (.aload_n 0, [], 0), (.getfield 114, [7, 13, 0], 0), (.iload_n 1, [], 0), (.iastore, [], 0), (.aload_n 0, [], 0), (.dup, [], 0), (.getfield 114, [7, 13, 0], 0), (.iconst 1, [], 0), (.iadd, [], 0), (.putfield 114, [7, 13, 0], 0), (.goto 83, [114], 0)]),
  (34, [(.iload_n 2, [], 0), (.iconst 2, [], 0), (.if_icmp .ne 56, [92, 1, 0, 1], 0), (.aload_n 0, [], 0), (.getfield 28, [7, 12, 2], 0), (.aload_n 0, [], 0), (.getfield 114, [7, 13, 0], 0), (.aload_n 0, [], 0), (.getfield 22, [7, 9, 2], 0), (.iconst 4, [], 0), (.iload_n 1, [], 0), (.imul, [], 0), (.iconst 1, [], 0), (.iadd, [], 0), (.iaload, [], 0), (.iastore, [], 0), (.aload_n 0, [], 0), (.getfield 28, [7, 12, 2], 0), (.aload_n 0, [], 0), (.getfield 114, [7, 13, 0], 0), (.iconst 1, [], 0), (.iadd, [], 0), (.aload_n 0, [], 0), (.getfield 22, [7, 9, 2], 0), (.iconst 4, [], 0), (.iload_n 1, [], 0), (.imul, [], 0), (.iconst 1, [], 0), (.iadd, [], 0), (.iaload, [], 0), (.iastore, [], 0), (.aload_n 0, [], 0), (.dup, [], 0), (.getfield 114, [7, 13, 0], 0), (.iconst 2, [], 0), (.iadd, [], 0), (.putfield 114, [7, 13, 0], 0), (.goto 25, [114], 0)]),
  (92, [(.iload_n 2, [], 0), (.iconst 4, [], 0), (.if_icmp .ne 20, [114], 0), (.aload_n 0, [], 0), (.getfield 114, [7, 13, 0], 0), (.ifCond .le 13, [114], 0), (.aload_n 0, [], 0), (.dup, [], 0), (.getfield 114, [7, 13, 0], 0), (.iconst 1, [], 0), (.isub, [], 0), (.putfield 114, [7, 13, 0], 0), (.nop, [114], 0)]),
  (114, [(.return_, [], 0)])]
/-- MindReadersModel.layPlain(III)V -/
def zc_21 : List (Nat × List zE) := [(0, [(.bipush 48, [], 0), (.iload_n 1, [], 0), (.imul, [], 0), (.bipush 6, [], 0), (.iload_n 2, [], 0), (.imul, [], 0), (.iadd, [], 0), (.istore 4, [], 0), (.aload_n 0, [], 0), (.iconst 0, [], 0), (.putfield 114, [7, 13, 0], 0), (.iconst 1, [], 0), (.istore 5, [], 0), (.nop, [19, 1, 0, 0, 1, 1, 1], 0)]),
  (19, [(.iload 5, [], 0), (.aload_n 0, [], 0), (.getfield 19, [7, 7, 2], 0), (.iload 4, [], 0), (.iaload, [], 0), (.if_icmp .gt 40, [68], 0), (.iload_n 3, [], 0), (.aload_n 0, [], 0), (.getfield 19, [7, 7, 2], 0), (.iload 4, [], 0), (.iload 5, [], 0), (.iadd, [], 0), (.iaload, [], 0), (.ishr, [], 0), (.iconst 1, [], 0), (.iand, [], 0), (.ifCond .ne 17, [62, 1, 0, 0, 1, 1, 1], 0), (.aload_n 0, [], 0), (.aload_n 0, [], 0), (.getfield 19, [7, 7, 2], 0), (.iload 4, [], 0), (.iload 5, [], 0), (.iadd, [], 0), (.iaload, [], 0), (.invokevirtual 117, [20, 2, 0, 3, 7], 0), (.nop, [62, 1, 0, 0, 1, 1, 1], 0)]),
  (62, [(.iinc 5 1, [], 0), (.goto (-46), [19, 1, 0, 0, 1, 1, 1], 0)]),
  (68, [(.return_, [], 0)])]
/-- MindReadersModel.layAll(II)V -/
def zc_22 : List (Nat × List zE) := [(0, [(.iconst 0, [], 0), (.istore_n 3, [], 0), (.nop, [2, 1, 1, 1, 1], 0)]),
  (2, [(.iload_n 3, [], 0), (.aload_n 0, [], 0), (.getfield 16, [7, 6, 2], 0), (.iload_n 1, [], 0), (.iaload, [], 0), (.if_icmp .ge 68, [77], 0), (.aload_n 0, [], 0), (.iload_n 1, [], 0), (.iload_n 3, [], 0), (.iload_n 2, [], 0), (.invokevirtual 121, [21, 4, 0, 6, 7], 0), (.aload_n 0, [], 0), (.getfield 31, [7, 14, 2], 0), (.bipush 11, [], 0), (.iload_n 3, [], 0), (.imul, [], 0), (.aload_n 0, [], 0), (.getfield 114, [7, 13, 0], 0), (.iastore, [], 0), (.iconst 0, [], 0), (.istore 4, [], 0), (.nop, [35, 1, 1, 1, 1, 1], 0)]),
  (35, [(.iload 4, [], 0), (.aload_n 0, [], 0), (.getfield 114, [7, 13, 0], 0), (.if_icmp .ge 30, [71, 1, 1, 1, 1], 0), (.aload_n 0, [], 0), (.getfield 31, [7, 14, 2], 0), (.bipush 11, [], 0), (.iload_n 3, [], 0), (.imul, [], 0), (.iconst 1, [], 0), (.iadd, [], 0), (.iload 4, [], 0), (.iadd, [], 0), (.aload_n 0, [], 0), (.getfield 28, [7, 12, 2], 0), (.iload 4, [], 0), (.iaload, [], 0), (.iastore, [], 0), (.iinc 4 1, [], 0), (.goto (-33), [35, 1, 1, 1, 1, 1], 0)]),
  (71, [(.iinc 3 1, [], 0), (.goto (-72), [2, 1, 1, 1, 1], 0)]),
  (77, [(.return_, [], 0)])]
/-- MindReadersModel.longOf(II)I -/
def zc_23 : List (Nat × List zE) := [(0, [(.bipush 48, [], 0), (.iload_n 1, [], 0), (.imul, [], 0), (.bipush 6, [], 0), (.iload_n 2, [], 0), (.imul, [], 0), (.iadd, [], 0), (.istore_n 3, [], 0), (.iconst 0, [], 0), (.istore 4, [], 0), (.iconst 1, [], 0), (.istore 5, [], 0), (.nop, [16, 1, 0, 0, 1, 1, 1], 0)]),
  (16, [(.iload 5, [], 0), (.aload_n 0, [], 0), (.getfield 19, [7, 7, 2], 0), (.iload_n 3, [], 0), (.iaload, [], 0), (.if_icmp .gt 27, [51, 0, 0, 0, 0, 1], 0), (.iload 4, [], 0), (.aload_n 0, [], 0), (.aload_n 0, [], 0), (.getfield 19, [7, 7, 2], 0), (.iload_n 3, [], 0), (.iload 5, [], 0), (.iadd, [], 0), (.iaload, [], 0), (.invokevirtual 125, [18, 2, 1, 2, 7], 0), (.iadd, [], 0), (.istore 4, [], 0), (.iinc 5 1, [], 0), (.goto (-32), [16, 1, 0, 0, 1, 1, 1], 0)]),
  (51, [(.iload 4, [], 0), (.ireturn, [0], 0)])]
/-- MindReadersModel.speechOf(III)I -/
def zc_24 : List (Nat × List zE) := [(0, [(.bipush 48, [], 0), (.iload_n 1, [], 0), (.imul, [], 0), (.bipush 6, [], 0), (.iload_n 2, [], 0), (.imul, [], 0), (.iadd, [], 0), (.istore 4, [], 0), (.iload_n 3, [], 0), (.i2l, [], 0), (.lconst 0, [], 0), (.ldc2_w 128, [], 5), (.invokestatic 75, [2, 3, 1, 6], 0), (.ifCond .eq 28, [48, 1, 1, 1, 1], 0), (.iload_n 3, [], 0), (.aload_n 0, [], 0), (.getfield 19, [7, 7, 2], 0), (.iload 4, [], 0), (.iaload, [], 0), (.if_icmp .gt 15, [46], 0), (.aload_n 0, [], 0), (.getfield 19, [7, 7, 2], 0), (.iload 4, [], 0), (.iload_n 3, [], 0), (.iadd, [], 0), (.iaload, [], 0), (.goto 4, [47], 0)]),
  (46, [(.iconst (-1), [], 0), (.nop, [47], 0)]),
  (47, [(.ireturn, [0], 0)]),
  (48, [(.aload_n 0, [], 0), (.iload_n 1, [], 0), (.iload_n 2, [], 0), (.iconst 0, [], 0), (.invokevirtual 121, [21, 4, 0, 6, 7], 0), (.iload_n 3, [], 0), (.i2l, [], 0), (.ldc2_w 130, [], 11), (.ldc2_w 132, [], 20), (.invokestatic 75, [2, 3, 1, 6], 0), (.ifCond .eq 28, [94, 1, 1, 1, 1], 0), (.iload_n 3, [], 0), (.bipush 11, [], 0), (.isub, [], 0), (.aload_n 0, [], 0), (.getfield 114, [7, 13, 0], 0), (.if_icmp .ge 15, [92], 0), (.aload_n 0, [], 0), (.getfield 28, [7, 12, 2], 0), (.iload_n 3, [], 0), (.bipush 11, [], 0), (.isub, [], 0), (.iaload, [], 0), (.goto 4, [93], 0)]),
  (92, [(.iconst (-1), [], 0), (.nop, [93], 0)]),
  (93, [(.ireturn, [0], 0)]),
  (94, [(.iload_n 3, [], 0), (.bipush 10, [], 0), (.if_icmp .ne 10, [107, 1, 1, 1, 1], 0), (.aload_n 0, [], 0), (.getfield 114, [7, 13, 0], 0), (.goto 20, [124], 0)]),
  (107, [(.iload_n 3, [], 0), (.bipush 30, [], 0), (.if_icmp .ne 12, [122], 0), (.aload_n 0, [], 0), (.iload_n 1, [], 0), (.iload_n 2, [], 0), (.invokevirtual 134, [23, 3, 1, 6, 7], 0), (.goto 5, [124], 0)]),
  (122, [(.bipush (-102), [], 0), (.nop, [124], 0)]),
  (124, [(.ireturn, [0], 0)])]
/-- MindReadersModel.speech(III)I -/
def zc_25 : List (Nat × List zE) := [(0, [(.aload_n 0, [], 0), (.iload_n 1, [], 0), (.invokevirtual 138, [9, 2, 1, 2, 7], 0), (.ifCond .eq 21, [26], 0), (.iload_n 2, [], 0), (.i2l, [], 0), (.lconst 0, [], 0), (.aload_n 0, [], 0), (.getfield 16, [7, 6, 2], 0), (.iload_n 1, [], 0), (.iaload, [], 0), (.iconst 1, [], 0), (.isub, [], 0), (.i2l, [], 0), (.invokestatic 75, [2, 3, 1, 6], 0), (.ifCond .ne 6, [29, 1, 1, 1, 1], 0), (.nop, [26], 0)]),
  (26, [(.bipush (-101), [], 0), (.ireturn, [0], 0)]),
  (29, [(.aload_n 0, [], 0), (.iload_n 1, [], 0), (.iload_n 2, [], 0), (.iload_n 3, [], 0), (.invokevirtual 141, [24, 4, 1, 5, 7], 0), (.ireturn, [0], 0)])]
/-- MindReadersModel.isStart(III)Z -/
def zc_26 : List (Nat × List zE) := [(0, [(.aload_n 0, [], 0), (.getfield 31, [7, 14, 2], 0), (.bipush 11, [], 0), (.iload_n 1, [], 0), (.imul, [], 0), (.iaload, [], 0), (.iload_n 3, [], 0), (.if_icmp .lt 20, [30, 1, 1, 1, 1], 0), (.aload_n 0, [], 0), (.getfield 31, [7, 14, 2], 0), (.bipush 11, [], 0), (.iload_n 2, [], 0), (.imul, [], 0), (.iaload, [], 0), (.iload_n 3, [], 0), (.if_icmp .lt 7, [30, 1, 1, 1, 1], 0), (.iconst 1, [], 0), (.goto 4, [31, 1, 1, 1, 1], 0)]),
  (30, [(.iconst 0, [], 0), (.nop, [31, 1, 1, 1, 1], 0)]),
  (31, [(.istore 4, [], 0), (.iconst 0, [], 0), (.istore 5, [], 0), (.nop, [36, 1, 1, 1, 1, 1, 1], 0)]),
  (36, [(.iload 5, [], 0), (.iload_n 3, [], 0), (.if_icmp .ge 52, [91, 0, 0, 0, 0, 1], 0), (.iload 4, [], 0), (.ifCond .eq 47, [91, 0, 0, 0, 0, 1], 0), (.aload_n 0, [], 0), (.getfield 31, [7, 14, 2], 0), (.bipush 11, [], 0), (.iload_n 1, [], 0), (.imul, [], 0), (.iconst 1, [], 0), (.iadd, [], 0), (.iload 5, [], 0), (.iadd, [], 0), (.iaload, [], 0), (.aload_n 0, [], 0), (.getfield 31, [7, 14, 2], 0), (.bipush 11, [], 0), (.iload_n 2, [], 0), (.imul, [], 0), (.iconst 1, [], 0), (.iadd, [], 0), (.iload 5, [], 0), (.iadd, [], 0), (.iaload, [], 0), (.if_icmp .ne 7, [82, 1, 1, 1, 1, 0, 1], 0), (.iconst 1, [], 0), (.goto 4, [83, 1, 1, 1, 1, 0, 1], 0)]),
  (82, [(.iconst 0, [], 0), (.nop, [83, 1, 1, 1, 1, 0, 1], 0)]),
  (83, [(.istore 4, [], 0), (.iinc 5 1, [], 0), (.goto (-52), [36, 1, 1, 1, 1, 1, 1], 0)]),
  (91, [(.iload 4, [], 0), (.ireturn, [1], 0)])]
/-- MindReadersModel.isAlike(II)Z -/
def zc_27 : List (Nat × List zE) := [(0, [(.aload_n 0, [], 0), (.getfield 31, [7, 14, 2], 0), (.bipush 11, [], 0), (.iload_n 1, [], 0), (.imul, [], 0), (.iaload, [], 0), (.aload_n 0, [], 0), (.getfield 31, [7, 14, 2], 0), (.bipush 11, [], 0), (.iload_n 2, [], 0), (.imul, [], 0), (.iaload, [], 0), (.if_icmp .ne 25, [43], 0), (.aload_n 0, [], 0), (.iload_n 1, [], 0), (.iload_n 2, [], 0), (.aload_n 0, [], 0), (.getfield 31, [7, 14, 2], 0), (.bipush 11, [], 0), (.iload_n 1, [], 0), (.imul, [], 0), (.iaload, [], 0), (.invokevirtual 145, [26, 4, 1, 6, 7], 0), (.ifCond .eq 7, [43], 0), (.iconst 1, [], 0), (.goto 4, [44], 0)]),
  (43, [(.iconst 0, [], 0), (.nop, [44], 0)]),
  (44, [(.ireturn, [1], 0)])]
/-- MindReadersModel.layPage()Z -/
def zc_28 : List (Nat × List zE) := [(0, [(.iconst 1, [], 0), (.istore_n 1, [], 0), (.aload_n 0, [], 0), (.iconst 0, [], 0), (.putfield 114, [7, 13, 0], 0), (.iconst 0, [], 0), (.istore_n 2, [], 0), (.nop, [9, 1, 1, 1], 0)]),
  (9, [(.iload_n 2, [], 0), (.aload_n 0, [], 0), (.getfield 62, [7, 1, 0], 0), (.if_icmp .ge 47, [61, 0, 1], 0), (.iload_n 1, [], 0), (.ifCond .eq 43, [61, 0, 1], 0), (.aload_n 0, [], 0), (.getfield 7, [7, 0, 2], 0), (.iload_n 2, [], 0), (.iaload, [], 0), (.i2l, [], 0), (.ldc2_w 71, [], 97), (.ldc2_w 73, [], 104), (.invokestatic 75, [2, 3, 1, 6], 0), (.istore_n 1, [], 0), (.iload_n 1, [], 0), (.ifCond .eq 16, [55, 1, 1, 1], 0), (.aload_n 0, [], 0), (.aload_n 0, [], 0), (.getfield 7, [7, 0, 2], 0), (.iload_n 2, [], 0), (.iaload, [], 0), (.bipush 97, [], 0), (.isub, [], 0), (.invokevirtual 117, [20, 2, 0, 3, 7], 0), (.nop, [55, 1, 1, 1], 0)]),
  (55, [(.iinc 2 1, [], 0), (.goto (-49), [9, 1, 1, 1], 0)]),
  (61, [(.iload_n 1, [], 0), (.ireturn, [1], 0)])]
/-- MindReadersModel.differs(I)I -/
def zc_29 : List (Nat × List zE) := [(0, [(.aload_n 0, [], 0), (.getfield 31, [7, 14, 2], 0), (.bipush 11, [], 0), (.iload_n 1, [], 0), (.imul, [], 0), (.iaload, [], 0), (.aload_n 0, [], 0), (.getfield 114, [7, 13, 0], 0), (.if_icmp .eq 6, [19, 1, 1], 0), (.ldc 149, [], 1000000), (.ireturn, [0], 0)]),
  (19, [(.iconst 0, [], 0), (.istore_n 2, [], 0), (.iconst 0, [], 0), (.istore_n 3, [], 0), (.nop, [23, 1, 1, 1, 1], 0)]),
  (23, [(.iload_n 3, [], 0), (.aload_n 0, [], 0), (.getfield 114, [7, 13, 0], 0), (.if_icmp .ge 39, [67, 0, 0, 1], 0), (.iload_n 2, [], 0), (.aload_n 0, [], 0), (.getfield 31, [7, 14, 2], 0), (.bipush 11, [], 0), (.iload_n 1, [], 0), (.imul, [], 0), (.iconst 1, [], 0), (.iadd, [], 0), (.iload_n 3, [], 0), (.iadd, [], 0), (.iaload, [], 0), (.aload_n 0, [], 0), (.getfield 28, [7, 12, 2], 0), (.iload_n 3, [], 0), (.iaload, [], 0), (.if_icmp .ne 7, [58, 1, 1, 0, 1], 0), (.iconst 0, [], 0), (.goto 4, [59, 1, 1, 0, 1], 0)]),
  (58, [(.iconst 1, [], 0), (.nop, [59, 1, 1, 0, 1], 0)]),
  (59, [(.iadd, [], 0), (.istore_n 2, [], 0), (.iinc 3 1, [], 0), (.goto (-41), [23, 1, 1, 1, 1], 0)]),
  (67, [(.iload_n 2, [], 0), (.ireturn, [0], 0)])]
/-- MindReadersModel.namedNow(I)I -/
def zc_30 : List (Nat × List zE) := [(0, [(.iconst (-1), [], 0), (.istore_n 2, [], 0), (.ldc 149, [], 1000000), (.istore_n 3, [], 0), (.iconst 0, [], 0), (.istore 4, [], 0), (.nop, [8, 1, 1, 1, 1, 1], 0)]),
  (8, [(.iload 4, [], 0), (.aload_n 0, [], 0), (.getfield 16, [7, 6, 2], 0), (.iload_n 1, [], 0), (.iaload, [], 0), (.if_icmp .ge 43, [59, 0, 0, 1], 0), (.aload_n 0, [], 0), (.iload 4, [], 0), (.invokevirtual 150, [29, 2, 1, 4, 7], 0), (.istore 5, [], 0), (.iload 5, [], 0), (.iload_n 3, [], 0), (.if_icmp .ge 8, [38, 1, 1, 1, 1, 1, 1], 0), (.iload 4, [], 0), (.goto 4, [39, 1, 1, 0, 1, 1, 1], 0)]),
  (38, [(.iload_n 2, [], 0), (.nop, [39, 1, 1, 0, 1, 1, 1], 0)]),
  (39, [(.istore_n 2, [], 0), (.iload 5, [], 0), (.iload_n 3, [], 0), (.if_icmp .ge 8, [51, 1, 1, 1, 1, 1], 0), (.iload 5, [], 0), (.goto 4, [52, 1, 1, 1, 0, 1], 0)]),
  (51, [(.iload_n 3, [], 0), (.nop, [52, 1, 1, 1, 0, 1], 0)]),
  (52, [(.istore_n 3, [], 0), (.iinc 4 1, [], 0), (.goto (-48), [8, 1, 1, 1, 1, 1], 0)]),
  (59, [(.iload_n 2, [], 0), (.ireturn, [0], 0)])]
/-- MindReadersModel.means(I)I -/
def zc_31 : List (Nat × List zE) := [(0, [(.aload_n 0, [], 0), (.iload_n 1, [], 0), (.invokevirtual 138, [9, 2, 1, 2, 7], 0), (.ifCond .ne 6, [11, 1, 1], 0), (.bipush (-101), [], 0), (.ireturn, [0], 0)]),
  (11, [(.aload_n 0, [], 0), (.iload_n 1, [], 0), (.iconst 0, [], 0), (.invokevirtual 153, [22, 3, 0, 5, 7], 0), (.aload_n 0, [], 0), (.invokevirtual 157, [28, 1, 1, 3, 7], 0), (.ifCond .ne 6, [27, 1, 1], 0), (.bipush (-103), [], 0), (.ireturn, [0], 0)]),
  (27, [(.aload_n 0, [], 0), (.iload_n 1, [], 0), (.invokevirtual 161, [30, 2, 1, 6, 7], 0), (.istore_n 2, [], 0), (.iload_n 2, [], 0), (.iconst (-1), [], 0), (.if_icmp .eq 15, [50], 0), (.aload_n 0, [], 0), (.iload_n 2, [], 0), (.invokevirtual 150, [29, 2, 1, 4, 7], 0), (.ifCond .ne 7, [50], 0), (.iload_n 2, [], 0), (.goto 4, [51], 0)]),
  (50, [(.iconst (-1), [], 0), (.nop, [51], 0)]),
  (51, [(.ireturn, [0], 0)])]
/-- MindReadersModel.alikeOf(I)I -/
def zc_32 : List (Nat × List zE) := [(0, [(.aload_n 0, [], 0), (.iload_n 1, [], 0), (.iconst 0, [], 0), (.invokevirtual 153, [22, 3, 0, 5, 7], 0), (.iconst 0, [], 0), (.istore_n 2, [], 0), (.nop, [8, 1, 1, 1], 0)]),
  (8, [(.iload_n 2, [], 0), (.aload_n 0, [], 0), (.getfield 16, [7, 6, 2], 0), (.iload_n 1, [], 0), (.iaload, [], 0), (.if_icmp .ge 45, [60], 0), (.iload_n 2, [], 0), (.iconst 1, [], 0), (.iadd, [], 0), (.istore_n 3, [], 0), (.nop, [22, 1, 1, 1, 1], 0)]),
  (22, [(.iload_n 3, [], 0), (.aload_n 0, [], 0), (.getfield 16, [7, 6, 2], 0), (.iload_n 1, [], 0), (.iaload, [], 0), (.if_icmp .ge 25, [54, 1, 1, 1], 0), (.aload_n 0, [], 0), (.iload_n 2, [], 0), (.iload_n 3, [], 0), (.invokevirtual 164, [27, 3, 1, 3, 7], 0), (.ifCond .eq 10, [48, 1, 1, 1, 1], 0), (.bipush 8, [], 0), (.iload_n 2, [], 0), (.imul, [], 0), (.iload_n 3, [], 0), (.iadd, [], 0), (.ireturn, [0], 0)]),
  (48, [(.iinc 3 1, [], 0), (.goto (-29), [22, 1, 1, 1, 1], 0)]),
  (54, [(.iinc 2 1, [], 0), (.goto (-49), [8, 1, 1, 1], 0)]),
  (60, [(.iconst (-1), [], 0), (.ireturn, [0], 0)])]
/-- MindReadersModel.clear(II)I -/
def zc_33 : List (Nat × List zE) := [(0, [(.aload_n 0, [], 0), (.iload_n 1, [], 0), (.invokevirtual 138, [9, 2, 1, 2, 7], 0), (.ifCond .ne 6, [11, 1, 1, 1], 0), (.bipush (-101), [], 0), (.ireturn, [0], 0)]),
  (11, [(.iload_n 2, [], 0), (.i2l, [], 0), (.lconst 0, [], 0), (.ldc2_w 168, [], 2), (.invokestatic 75, [2, 3, 1, 6], 0), (.ifCond .ne 6, [26, 1, 1, 1], 0), (.bipush (-102), [], 0), (.ireturn, [0], 0)]),
  (26, [(.aload_n 0, [], 0), (.iload_n 1, [], 0), (.invokevirtual 170, [32, 2, 1, 4, 7], 0), (.istore_n 3, [], 0), (.iload_n 2, [], 0), (.ifCond .ne 14, [47, 0, 0, 1, 1], 0), (.iload_n 3, [], 0), (.iconst (-1), [], 0), (.if_icmp .ne 7, [45], 0), (.iconst 1, [], 0), (.goto 4, [46], 0)]),
  (45, [(.iconst 0, [], 0), (.nop, [46], 0)]),
  (46, [(.ireturn, [0], 0)]),
  (47, [(.iload_n 3, [], 0), (.iconst (-1), [], 0), (.if_icmp .ne 7, [56, 0, 0, 1, 1], 0), (.iconst (-1), [], 0), (.goto 19, [72], 0)]),
  (56, [(.iload_n 2, [], 0), (.iconst 1, [], 0), (.if_icmp .ne 10, [68, 0, 0, 0, 1], 0), (.iload_n 3, [], 0), (.bipush 8, [], 0), (.idiv, [], 0), (.goto 7, [72], 0)]),
  (68, [(.iload_n 3, [], 0), (.bipush 8, [], 0), (.irem, [], 0), (.nop, [72], 0)]),
  (72, [(.ireturn, [0], 0)])]
/-- MindReadersModel.starts(II)I -/
def zc_34 : List (Nat × List zE) := [(0, [(.aload_n 0, [], 0), (.iload_n 1, [], 0), (.invokevirtual 138, [9, 2, 1, 2, 7], 0), (.ifCond .ne 6, [11, 1, 1, 1], 0), (.bipush (-101), [], 0), (.ireturn, [0], 0)]),
  (11, [(.iload_n 2, [], 0), (.i2l, [], 0), (.lconst 0, [], 0), (.lconst 1, [], 0), (.invokestatic 75, [2, 3, 1, 6], 0), (.ifCond .ne 6, [24, 1, 1, 1], 0), (.bipush (-102), [], 0), (.ireturn, [0], 0)]),
  (24, [(.aload_n 0, [], 0), (.iload_n 1, [], 0), (.iconst 0, [], 0), (.invokevirtual 153, [22, 3, 0, 5, 7], 0), (.iconst 0, [], 0), (.istore_n 3, [], 0), (.nop, [32, 1, 1, 1, 1], 0)]),
  (32, [(.iload_n 3, [], 0), (.bipush 64, [], 0), (.if_icmp .ge 118, [153], 0), (.iload_n 3, [], 0), (.bipush 8, [], 0), (.idiv, [], 0), (.istore 4, [], 0), (.iload_n 3, [], 0), (.bipush 8, [], 0), (.irem, [], 0), (.istore 5, [], 0), (.iload 4, [], 0), (.iload 5, [], 0), (.if_icmp .eq 29, [83, 1, 1, 1, 1, 1, 1], 0), (.iload 4, [], 0), (.aload_n 0, [], 0), (.getfield 16, [7, 6, 2], 0), (.iload_n 1, [], 0), (.iaload, [], 0), (.if_icmp .ge 18, [83, 1, 1, 1, 1, 1, 1], 0), (.iload 5, [], 0), (.aload_n 0, [], 0), (.getfield 16, [7, 6, 2], 0), (.iload_n 1, [], 0), (.iaload, [], 0), (.if_icmp .ge 7, [83, 1, 1, 1, 1, 1, 1], 0), (.iconst 1, [], 0), (.goto 4, [84, 1, 1, 1, 1, 1, 1], 0)]),
  (83, [(.iconst 0, [], 0), (.nop, [84, 1, 1, 1, 1, 1, 1], 0)]),
  (84, [(.istore 6, [], 0), (.iload 6, [], 0), (.ifCond .eq 59, [147, 1, 1, 1, 1], 0), (.aload_n 0, [], 0), (.getfield 31, [7, 14, 2], 0), (.bipush 11, [], 0), (.iload 4, [], 0), (.imul, [], 0), (.iaload, [], 0), (.aload_n 0, [], 0), (.getfield 31, [7, 14, 2], 0), (.bipush 11, [], 0), (.iload 5, [], 0), (.imul, [], 0), (.iaload, [], 0), (.if_icmp .ge 36, [147, 1, 1, 1, 1], 0), (.aload_n 0, [], 0), (.iload 4, [], 0), (.iload 5, [], 0), (.aload_n 0, [], 0), (.getfield 31, [7, 14, 2], 0), (.bipush 11, [], 0), (.iload 4, [], 0), (.imul, [], 0), (.iaload, [], 0), (.invokevirtual 145, [26, 4, 1, 6, 7], 0), (.ifCond .eq 15, [147, 1, 1, 1, 1], 0), (.iload_n 2, [], 0), (.ifCond .ne 8, [144, 0, 0, 0, 0, 0, 1], 0), (.iload 4, [], 0), (.goto 5, [146], 0)]),
  (144, [(.iload 5, [], 0), (.nop, [146], 0)]),
  (146, [(.ireturn, [0], 0)]),
  (147, [(.iinc 3 1, [], 0), (.goto (-118), [32, 1, 1, 1, 1], 0)]),
  (153, [(.iconst (-1), [], 0), (.ireturn, [0], 0)])]
/-- MindReadersModel.goesOn(III)Z -/
def zc_35 : List (Nat × List zE) := [(0, [(.aload_n 0, [], 0), (.getfield 31, [7, 14, 2], 0), (.bipush 11, [], 0), (.iload_n 1, [], 0), (.imul, [], 0), (.iaload, [], 0), (.iload_n 2, [], 0), (.isub, [], 0), (.istore 4, [], 0), (.iload 4, [], 0), (.aload_n 0, [], 0), (.getfield 31, [7, 14, 2], 0), (.bipush 11, [], 0), (.iload_n 3, [], 0), (.imul, [], 0), (.iaload, [], 0), (.if_icmp .ge 8, [32, 1, 1, 1, 1], 0), (.iload 4, [], 0), (.goto 12, [41, 1, 1, 1, 1], 0)]),
  (32, [(.aload_n 0, [], 0), (.getfield 31, [7, 14, 2], 0), (.bipush 11, [], 0), (.iload_n 3, [], 0), (.imul, [], 0), (.iaload, [], 0), (.nop, [41, 1, 1, 1, 1], 0)]),
  (41, [(.istore 5, [], 0), (.iconst 1, [], 0), (.istore 6, [], 0), (.iconst 0, [], 0), (.istore 7, [], 0), (.nop, [49, 1, 1, 1, 1, 0, 1, 1, 1], 0)]),
  (49, [(.iload 7, [], 0), (.iload 5, [], 0), (.if_icmp .ge 54, [107, 0, 0, 0, 0, 0, 0, 1], 0), (.iload 6, [], 0), (.ifCond .eq 49, [107, 0, 0, 0, 0, 0, 0, 1], 0), (.aload_n 0, [], 0), (.getfield 31, [7, 14, 2], 0), (.bipush 11, [], 0), (.iload_n 1, [], 0), (.imul, [], 0), (.iconst 1, [], 0), (.iadd, [], 0), (.iload_n 2, [], 0), (.iadd, [], 0), (.iload 7, [], 0), (.iadd, [], 0), (.iaload, [], 0), (.aload_n 0, [], 0), (.getfield 31, [7, 14, 2], 0), (.bipush 11, [], 0), (.iload_n 3, [], 0), (.imul, [], 0), (.iconst 1, [], 0), (.iadd, [], 0), (.iload 7, [], 0), (.iadd, [], 0), (.iaload, [], 0), (.if_icmp .ne 7, [98, 1, 1, 1, 1, 0, 1, 0, 1], 0), (.iconst 1, [], 0), (.goto 4, [99, 1, 1, 1, 1, 0, 1, 0, 1], 0)]),
  (98, [(.iconst 0, [], 0), (.nop, [99, 1, 1, 1, 1, 0, 1, 0, 1], 0)]),
  (99, [(.istore 6, [], 0), (.iinc 7 1, [], 0), (.goto (-55), [49, 1, 1, 1, 1, 0, 1, 1, 1], 0)]),
  (107, [(.iload 6, [], 0), (.ireturn, [1], 0)])]
/-- MindReadersModel.reach(III)Z -/
def zc_36 : List (Nat × List zE) := [(0, [(.iload_n 2, [], 0), (.aload_n 0, [], 0), (.getfield 31, [7, 14, 2], 0), (.bipush 11, [], 0), (.iload_n 1, [], 0), (.imul, [], 0), (.iaload, [], 0), (.if_icmp .ne 25, [35, 1, 1, 1, 1], 0), (.aload_n 0, [], 0), (.iload_n 3, [], 0), (.aload_n 0, [], 0), (.getfield 173, [7, 16, 0], 0), (.if_icmp .ge 7, [26, 1], 0), (.iload_n 3, [], 0), (.goto 7, [30], 0)]),
  (26, [(.aload_n 0, [], 0), (.getfield 173, [7, 16, 0], 0), (.nop, [30], 0)]),
  (30, [(.putfield 173, [7, 16, 0], 0), (.iconst 0, [], 0), (.ireturn, [1], 0)]),
  (35, [(.iload_n 3, [], 0), (.aload_n 0, [], 0), (.getfield 34, [7, 15, 2], 0), (.bipush 11, [], 0), (.iload_n 1, [], 0), (.imul, [], 0), (.iload_n 2, [], 0), (.iadd, [], 0), (.iaload, [], 0), (.if_icmp .ge 7, [54, 1, 1, 1, 1], 0), (.iconst 1, [], 0), (.goto 4, [55, 1, 1, 1, 1], 0)]),
  (54, [(.iconst 0, [], 0), (.nop, [55, 1, 1, 1, 1], 0)]),
  (55, [(.istore 4, [], 0), (.aload_n 0, [], 0), (.getfield 34, [7, 15, 2], 0), (.bipush 11, [], 0), (.iload_n 1, [], 0), (.imul, [], 0), (.iload_n 2, [], 0), (.iadd, [], 0), (.iload 4, [], 0), (.ifCond .eq 7, [76, 1, 1, 1, 0, 1], 0), (.iload_n 3, [], 0), (.goto 14, [87, 0, 0, 0, 0, 1], 0)]),
  (76, [(.aload_n 0, [], 0), (.getfield 34, [7, 15, 2], 0), (.bipush 11, [], 0), (.iload_n 1, [], 0), (.imul, [], 0), (.iload_n 2, [], 0), (.iadd, [], 0), (.iaload, [], 0), (.nop, [87, 0, 0, 0, 0, 1], 0)]),
  (87, [(.iastore, [], 0), (.iload 4, [], 0), (.ireturn, [1], 0)])]
/-- MindReadersModel.reachBy(IIII)Z -/
def zc_37 : List (Nat × List zE) := [(0, [(.aload_n 0, [], 0), (.getfield 31, [7, 14, 2], 0), (.bipush 11, [], 0), (.iload_n 1, [], 0), (.imul, [], 0), (.iaload, [], 0), (.iload_n 2, [], 0), (.isub, [], 0), (.istore 5, [], 0), (.aload_n 0, [], 0), (.getfield 31, [7, 14, 2], 0), (.bipush 11, [], 0), (.iload_n 3, [], 0), (.imul, [], 0), (.iaload, [], 0), (.istore 6, [], 0), (.iload 6, [], 0), (.iload 5, [], 0), (.if_icmp .gt 17, [45, 1, 0, 0, 1, 1, 1, 1], 0), (.aload_n 0, [], 0), (.iload_n 1, [], 0), (.iload_n 2, [], 0), (.iload 6, [], 0), (.iadd, [], 0), (.iload 4, [], 0), (.invokevirtual 176, [36, 4, 1, 5, 7], 0), (.goto 18, [60], 0)]),
  (45, [(.aload_n 0, [], 0), (.iload_n 3, [], 0), (.iload 5, [], 0), (.iload 4, [], 0), (.iload 6, [], 0), (.iadd, [], 0), (.iload 5, [], 0), (.isub, [], 0), (.invokevirtual 176, [36, 4, 1, 5, 7], 0), (.nop, [60], 0)]),
  (60, [(.ireturn, [1], 0)])]
/-- MindReadersModel.twiceOf(I)I -/
def zc_38 : List (Nat × List zE) := [(0, [(.aload_n 0, [], 0), (.iload_n 1, [], 0), (.iconst 0, [], 0), (.invokevirtual 153, [22, 3, 0, 5, 7], 0), (.aload_n 0, [], 0), (.getfield 16, [7, 6, 2], 0), (.iload_n 1, [], 0), (.iaload, [], 0), (.istore_n 2, [], 0), (.aload_n 0, [], 0), (.ldc 149, [], 1000000), (.putfield 173, [7, 16, 0], 0), (.iconst 0, [], 0), (.istore_n 3, [], 0), (.nop, [21, 1, 0, 1, 1], 0)]),
  (21, [(.iload_n 3, [], 0), (.bipush 88, [], 0), (.if_icmp .ge 17, [41, 1, 0, 1], 0), (.aload_n 0, [], 0), (.getfield 34, [7, 15, 2], 0), (.iload_n 3, [], 0), (.ldc 149, [], 1000000), (.iastore, [], 0), (.iinc 3 1, [], 0), (.goto (-17), [21, 1, 0, 1, 1], 0)]),
  (41, [(.iconst 0, [], 0), (.istore_n 3, [], 0), (.nop, [43, 1, 0, 1, 1], 0)]),
  (43, [(.iload_n 3, [], 0), (.iload_n 2, [], 0), (.if_icmp .ge 122, [167, 1, 0, 1], 0), (.iconst 0, [], 0), (.istore 4, [], 0), (.nop, [51, 1, 0, 1, 1, 1], 0)]),
  (51, [(.iload 4, [], 0), (.iload_n 2, [], 0), (.if_icmp .ge 107, [161, 1, 0, 1, 1], 0), (.iload_n 3, [], 0), (.iload 4, [], 0), (.if_icmp .eq 41, [101, 1, 0, 1, 1, 1], 0), (.aload_n 0, [], 0), (.getfield 31, [7, 14, 2], 0), (.bipush 11, [], 0), (.iload_n 3, [], 0), (.imul, [], 0), (.iaload, [], 0), (.ifCond .le 29, [101, 1, 0, 1, 1, 1], 0), (.aload_n 0, [], 0), (.getfield 31, [7, 14, 2], 0), (.bipush 11, [], 0), (.iload_n 3, [], 0), (.imul, [], 0), (.iaload, [], 0), (.aload_n 0, [], 0), (.getfield 31, [7, 14, 2], 0), (.bipush 11, [], 0), (.iload 4, [], 0), (.imul, [], 0), (.iaload, [], 0), (.if_icmp .gt 7, [101, 1, 0, 1, 1, 1], 0), (.iconst 1, [], 0), (.goto 4, [102, 1, 0, 1, 1, 1], 0)]),
  (101, [(.iconst 0, [], 0), (.nop, [102, 1, 0, 1, 1, 1], 0)]),
  (102, [(.istore 5, [], 0), (.iload 5, [], 0), (.ifCond .eq 46, [152, 1, 0, 1, 1, 1], 0), (.aload_n 0, [], 0), (.iload 4, [], 0), (.iconst 0, [], 0), (.iload_n 3, [], 0), (.invokevirtual 179, [35, 4, 1, 8, 7], 0), (.ifCond .eq 35, [152, 1, 0, 1, 1, 1], 0), (.aload_n 0, [], 0), (.iload 4, [], 0), (.aload_n 0, [], 0), (.getfield 31, [7, 14, 2], 0), (.bipush 11, [], 0), (.iload_n 3, [], 0), (.imul, [], 0), (.iaload, [], 0), (.aload_n 0, [], 0), (.getfield 31, [7, 14, 2], 0), (.bipush 11, [], 0), (.iload 4, [], 0), (.imul, [], 0), (.iaload, [], 0), (.invokevirtual 176, [36, 4, 1, 5, 7], 0), (.ifCond .eq 7, [152, 1, 0, 1, 1, 1], 0), (.iconst 1, [], 0), (.goto 4, [153, 1, 0, 1, 1, 1], 0)]),
  (152, [(.iconst 0, [], 0), (.nop, [153, 1, 0, 1, 1, 1], 0)]),
  (153, [(.istore 6, [], 0), (.iinc 4 1, [], 0), (.goto (-107), [51, 1, 0, 1, 1, 1], 0)]),
  (161, [(.iinc 3 1, [], 0), (.goto (-121), [43, 1, 0, 1, 1], 0)]),
  (167, [(.iconst 1, [], 0), (.istore_n 3, [], 0), (.nop, [169, 1, 0, 1, 1], 0)]),
  (169, [(.iload_n 3, [], 0), (.ifCond .eq 145, [315, 1], 0), (.iconst 0, [], 0), (.istore_n 3, [], 0), (.iconst 0, [], 0), (.istore 4, [], 0), (.nop, [178, 1, 0, 1, 1, 1], 0)]),
  (178, [(.iload 4, [], 0), (.bipush 88, [], 0), (.if_icmp .ge 130, [312, 1, 0, 1, 1], 0), (.iload 4, [], 0), (.bipush 11, [], 0), (.idiv, [], 0), (.istore 5, [], 0), (.iload 4, [], 0), (.bipush 11, [], 0), (.irem, [], 0), (.istore 6, [], 0), (.iconst 0, [], 0), (.istore 7, [], 0), (.nop, [202, 1, 0, 1, 1, 1, 1, 1, 1], 0)]),
  (202, [(.iload 7, [], 0), (.iload_n 2, [], 0), (.if_icmp .ge 101, [306, 1, 0, 1, 1, 1], 0), (.aload_n 0, [], 0), (.getfield 34, [7, 15, 2], 0), (.iload 4, [], 0), (.iaload, [], 0), (.ldc 149, [], 1000000), (.if_icmp .ge 89, [306, 1, 0, 1, 1, 1], 0), (.aload_n 0, [], 0), (.getfield 31, [7, 14, 2], 0), (.bipush 11, [], 0), (.iload 7, [], 0), (.imul, [], 0), (.iaload, [], 0), (.ifCond .le 20, [250, 1, 0, 1, 1, 1, 1, 1, 1], 0), (.aload_n 0, [], 0), (.iload 5, [], 0), (.iload 6, [], 0), (.iload 7, [], 0), (.invokevirtual 179, [35, 4, 1, 8, 7], 0), (.ifCond .eq 7, [250, 1, 0, 1, 1, 1, 1, 1, 1], 0), (.iconst 1, [], 0), (.goto 4, [251, 1, 0, 1, 1, 1, 1, 1, 1], 0)]),
  (250, [(.iconst 0, [], 0), (.nop, [251, 1, 0, 1, 1, 1, 1, 1, 1], 0)]),
  (251, [(.istore 8, [], 0), (.iload 8, [], 0), (.ifCond .eq 27, [282, 1, 0, 1, 1, 1, 1, 1, 1], 0), (.aload_n 0, [], 0), (.iload 5, [], 0), (.iload 6, [], 0), (.iload 7, [], 0), (.aload_n 0, [], 0), (.getfield 34, [7, 15, 2], 0), (.iload 4, [], 0), (.iaload, [], 0), (.invokevirtual 182, [37, 5, 1, 7, 7], 0), (.ifCond .eq 7, [282, 1, 0, 1, 1, 1, 1, 1, 1], 0), (.iconst 1, [], 0), (.goto 4, [283, 1, 0, 1, 1, 1, 1, 1, 1], 0)]),
  (282, [(.iconst 0, [], 0), (.nop, [283, 1, 0, 1, 1, 1, 1, 1, 1], 0)]),
  (283, [(.istore 9, [], 0), (.iload_n 3, [], 0), (.ifCond .ne 8, [294, 1, 0, 1, 0, 1, 1, 1, 1], 0), (.iload 9, [], 0), (.ifCond .eq 7, [298, 1, 0, 1, 0, 1, 1, 1, 1], 0), (.nop, [294, 1, 0, 1, 0, 1, 1, 1, 1], 0)]),
  (294, [(.iconst 1, [], 0), (.goto 4, [299, 1, 0, 1, 0, 1, 1, 1, 1], 0)]),
  (298, [(.iconst 0, [], 0), (.nop, [299, 1, 0, 1, 0, 1, 1, 1, 1], 0)]),
  (299, [(.istore_n 3, [], 0), (.iinc 7 1, [], 0), (.goto (-101), [202, 1, 0, 1, 1, 1, 1, 1, 1], 0)]),
  (306, [(.iinc 4 1, [], 0), (.goto (-131), [178, 1, 0, 1, 1, 1], 0)]),
  (312, [(.goto (-143), [169, 1, 0, 1, 1], 0)]),
  (315, [(.aload_n 0, [], 0), (.getfield 173, [7, 16, 0], 0), (.ldc 149, [], 1000000), (.if_icmp .ne 7, [328, 1], 0), (.iconst (-1), [], 0), (.goto 7, [332], 0)]),
  (328, [(.aload_n 0, [], 0), (.getfield 173, [7, 16, 0], 0), (.nop, [332], 0)]),
  (332, [(.ireturn, [0], 0)])]
/-- MindReadersModel.twice(I)I -/
def zc_39 : List (Nat × List zE) := [(0, [(.aload_n 0, [], 0), (.iload_n 1, [], 0), (.invokevirtual 138, [9, 2, 1, 2, 7], 0), (.ifCond .eq 11, [16], 0), (.aload_n 0, [], 0), (.iload_n 1, [], 0), (.invokevirtual 186, [38, 2, 1, 10, 7], 0), (.goto 5, [18], 0)]),
  (16, [(.bipush (-101), [], 0), (.nop, [18], 0)]),
  (18, [(.ireturn, [0], 0)])]
/-- MindReadersModel.saidBy(I)I -/
def zc_40 : List (Nat × List zE) := [(0, [(.aload_n 0, [], 0), (.getfield 16, [7, 6, 2], 0), (.iload_n 1, [], 0), (.iaload, [], 0), (.aload_n 0, [], 0), (.getfield 104, [7, 10, 0], 0), (.if_icmp .ge 12, [22, 1], 0), (.aload_n 0, [], 0), (.getfield 16, [7, 6, 2], 0), (.iload_n 1, [], 0), (.iaload, [], 0), (.goto 7, [26], 0)]),
  (22, [(.aload_n 0, [], 0), (.getfield 104, [7, 10, 0], 0), (.nop, [26], 0)]),
  (26, [(.ireturn, [0], 0)])]
/-- MindReadersModel.common(JJ)J -/
def zc_41 : List (Nat × List zE) := [(0, [(.lload_n 0, [], 0), (.lstore 4, [], 0), (.lload_n 2, [], 0), (.lstore 6, [], 0), (.nop, [6, 0, 0, 0, 0, 1, 0, 1], 0)]),
  (6, [(.lload 4, [], 0), (.lconst 0, [], 0), (.lcmp, [], 0), (.ifCond .eq 21, [31, 0, 0, 0, 0, 0, 0, 1], 0), (.lload 6, [], 0), (.lload 4, [], 0), (.lrem, [], 0), (.lstore 8, [], 0), (.lload 4, [], 0), (.lstore 6, [], 0), (.lload 8, [], 0), (.lstore 4, [], 0), (.goto (-22), [6, 0, 0, 0, 0, 1, 0, 1], 0)]),
  (31, [(.lload 6, [], 0), (.lreturn, [], 0)])]
/-- MindReadersModel.term(JJI)J -/
def zc_42 : List (Nat × List zE) := [(0, [(.lload_n 0, [], 0), (.lload_n 2, [], 0), (.invokestatic 189, [41, 2, 2, 10], 0), (.lstore 5, [], 0), (.iload 4, [], 0), (.ifCond .ne 10, [19, 0, 0, 1, 0, 0, 1], 0), (.lload_n 0, [], 0), (.lload 5, [], 0), (.ldiv, [], 0), (.goto 7, [23], 0)]),
  (19, [(.lload_n 2, [], 0), (.lload 5, [], 0), (.ldiv, [], 0), (.nop, [23], 0)]),
  (23, [(.lreturn, [], 0)])]
/-- MindReadersModel.isPart(I)Z -/
def zc_43 : List (Nat × List zE) := [(0, [(.iload_n 0, [], 0), (.i2l, [], 0), (.lconst 0, [], 0), (.lconst 1, [], 0), (.invokestatic 75, [2, 3, 1, 6], 0), (.ireturn, [1], 0)])]
/-- MindReadersModel.weighed(I)I -/
def zc_44 : List (Nat × List zE) := [(0, [(.iconst 0, [], 0), (.istore_n 2, [], 0), (.iconst 0, [], 0), (.istore_n 3, [], 0), (.nop, [4, 1, 1, 1, 1], 0)]),
  (4, [(.iload_n 3, [], 0), (.iload_n 1, [], 0), (.if_icmp .ge 18, [24, 0, 0, 1], 0), (.iload_n 2, [], 0), (.aload_n 0, [], 0), (.getfield 25, [7, 11, 2], 0), (.iload_n 3, [], 0), (.iaload, [], 0), (.iadd, [], 0), (.istore_n 2, [], 0), (.iinc 3 1, [], 0), (.goto (-17), [4, 1, 1, 1, 1], 0)]),
  (24, [(.iload_n 2, [], 0), (.ireturn, [0], 0)])]
/-- MindReadersModel.mean(II)I -/
def zc_45 : List (Nat × List zE) := [(0, [(.aload_n 0, [], 0), (.iload_n 1, [], 0), (.invokevirtual 138, [9, 2, 1, 2, 7], 0), (.ifCond .ne 6, [11, 1, 1, 1], 0), (.bipush (-101), [], 0), (.ireturn, [0], 0)]),
  (11, [(.iload_n 2, [], 0), (.invokestatic 193, [43, 1, 1, 1], 0), (.ifCond .ne 6, [21, 1, 1, 1], 0), (.bipush (-102), [], 0), (.ireturn, [0], 0)]),
  (21, [(.aload_n 0, [], 0), (.iload_n 1, [], 0), (.invokevirtual 196, [40, 2, 1, 2, 7], 0), (.istore_n 3, [], 0), (.iload_n 3, [], 0), (.ifCond .ne 6, [34, 1, 1, 1, 1], 0), (.bipush (-103), [], 0), (.ireturn, [0], 0)]),
  (34, [(.iconst 0, [], 0), (.istore 4, [], 0), (.iconst 0, [], 0), (.istore 5, [], 0), (.nop, [40, 1, 1, 1, 1, 1, 1], 0)]),
  (40, [(.iload 5, [], 0), (.iload_n 3, [], 0), (.if_icmp .ge 29, [72, 1, 0, 1, 1, 1], 0), (.iload 4, [], 0), (.aload_n 0, [], 0), (.getfield 25, [7, 11, 2], 0), (.iload 5, [], 0), (.iaload, [], 0), (.aload_n 0, [], 0), (.iload_n 1, [], 0), (.iload 5, [], 0), (.invokevirtual 134, [23, 3, 1, 6, 7], 0), (.imul, [], 0), (.iadd, [], 0), (.istore 4, [], 0), (.iinc 5 1, [], 0), (.goto (-29), [40, 1, 1, 1, 1, 1, 1], 0)]),
  (72, [(.iload 4, [], 0), (.i2l, [], 0), (.aload_n 0, [], 0), (.iload_n 3, [], 0), (.invokevirtual 199, [44, 2, 1, 4, 7], 0), (.i2l, [], 0), (.iload_n 2, [], 0), (.invokestatic 202, [42, 3, 2, 7], 0), (.l2i, [], 0), (.ireturn, [0], 0)])]
/-- MindReadersModel.oddnessOf(I)I -/
def zc_46 : List (Nat × List zE) := [(0, [(.iconst 0, [], 0), (.istore_n 2, [], 0), (.iconst 0, [], 0), (.istore_n 3, [], 0), (.nop, [4, 1, 1, 1, 1], 0)]),
  (4, [(.iload_n 3, [], 0), (.aload_n 0, [], 0), (.iload_n 1, [], 0), (.invokevirtual 196, [40, 2, 1, 2, 7], 0), (.if_icmp .ge 65, [75, 0, 0, 1], 0), (.bipush 48, [], 0), (.iload_n 1, [], 0), (.imul, [], 0), (.bipush 6, [], 0), (.iload_n 3, [], 0), (.imul, [], 0), (.iadd, [], 0), (.istore 4, [], 0), (.iconst 1, [], 0), (.istore 5, [], 0), (.nop, [27, 1, 1, 1, 1, 1, 1], 0)]),
  (27, [(.iload 5, [], 0), (.aload_n 0, [], 0), (.getfield 19, [7, 7, 2], 0), (.iload 4, [], 0), (.iaload, [], 0), (.if_icmp .gt 33, [69, 1, 1, 1, 1], 0), (.iload_n 2, [], 0), (.aload_n 0, [], 0), (.getfield 25, [7, 11, 2], 0), (.iload_n 3, [], 0), (.iaload, [], 0), (.aload_n 0, [], 0), (.aload_n 0, [], 0), (.getfield 19, [7, 7, 2], 0), (.iload 4, [], 0), (.iload 5, [], 0), (.iadd, [], 0), (.iaload, [], 0), (.invokevirtual 206, [19, 2, 1, 2, 7], 0), (.imul, [], 0), (.iadd, [], 0), (.istore_n 2, [], 0), (.iinc 5 1, [], 0), (.goto (-39), [27, 1, 1, 1, 1, 1, 1], 0)]),
  (69, [(.iinc 3 1, [], 0), (.goto (-68), [4, 1, 1, 1, 1], 0)]),
  (75, [(.iload_n 2, [], 0), (.ireturn, [0], 0)])]
/-- MindReadersModel.oddness(I)I -/
def zc_47 : List (Nat × List zE) := [(0, [(.aload_n 0, [], 0), (.iload_n 1, [], 0), (.invokevirtual 138, [9, 2, 1, 2, 7], 0), (.ifCond .eq 11, [16], 0), (.aload_n 0, [], 0), (.iload_n 1, [], 0), (.invokevirtual 209, [46, 2, 1, 6, 7], 0), (.goto 5, [18], 0)]),
  (16, [(.bipush (-101), [], 0), (.nop, [18], 0)]),
  (18, [(.ireturn, [0], 0)])]
/-- MindReadersModel.placeOf(II)I -/
def zc_48 : List (Nat × List zE) := [(0, [(.iconst 0, [], 0), (.istore_n 3, [], 0), (.iconst 0, [], 0), (.istore 4, [], 0), (.nop, [5, 1, 1, 1, 1, 1], 0)]),
  (5, [(.iload 4, [], 0), (.iload_n 2, [], 0), (.if_icmp .ge 55, [63, 0, 0, 0, 1], 0), (.iload_n 3, [], 0), (.aload_n 0, [], 0), (.getfield 25, [7, 11, 2], 0), (.iload 4, [], 0), (.iaload, [], 0), (.aload_n 0, [], 0), (.getfield 25, [7, 11, 2], 0), (.iload_n 1, [], 0), (.iaload, [], 0), (.if_icmp .gt 25, [50, 1, 1, 1, 0, 1], 0), (.aload_n 0, [], 0), (.getfield 25, [7, 11, 2], 0), (.iload 4, [], 0), (.iaload, [], 0), (.aload_n 0, [], 0), (.getfield 25, [7, 11, 2], 0), (.iload_n 1, [], 0), (.iaload, [], 0), (.if_icmp .ne 13, [54, 1, 1, 1, 0, 1], 0), (.iload 4, [], 0), (.iload_n 1, [], 0), (.if_icmp .ge 7, [54, 1, 1, 1, 0, 1], 0), (.nop, [50, 1, 1, 1, 0, 1], 0)]),
  (50, [(.iconst 1, [], 0), (.goto 4, [55, 1, 1, 1, 0, 1], 0)]),
  (54, [(.iconst 0, [], 0), (.nop, [55, 1, 1, 1, 0, 1], 0)]),
  (55, [(.iadd, [], 0), (.istore_n 3, [], 0), (.iinc 4 1, [], 0), (.goto (-55), [5, 1, 1, 1, 1, 1], 0)]),
  (63, [(.iload_n 3, [], 0), (.ireturn, [0], 0)])]
/-- MindReadersModel.speechAt(III)I -/
def zc_49 : List (Nat × List zE) := [(0, [(.iconst (-1), [], 0), (.istore 4, [], 0), (.iconst 0, [], 0), (.istore 5, [], 0), (.nop, [6, 1, 1, 1, 1, 1, 1], 0)]),
  (6, [(.iload 5, [], 0), (.iload_n 3, [], 0), (.if_icmp .ge 86, [95, 0, 0, 0, 0, 1], 0), (.iconst 0, [], 0), (.istore 6, [], 0), (.iconst 0, [], 0), (.istore 7, [], 0), (.nop, [18, 1, 1, 1, 1, 1, 1, 1, 1], 0)]),
  (18, [(.iload 7, [], 0), (.iload_n 3, [], 0), (.if_icmp .ge 53, [74, 1, 1, 1, 1, 1, 1, 1], 0), (.aload_n 0, [], 0), (.iload_n 1, [], 0), (.iload 7, [], 0), (.invokevirtual 134, [23, 3, 1, 6, 7], 0), (.aload_n 0, [], 0), (.iload_n 1, [], 0), (.iload 5, [], 0), (.invokevirtual 134, [23, 3, 1, 6, 7], 0), (.isub, [], 0), (.istore 8, [], 0), (.iload 6, [], 0), (.iload 8, [], 0), (.ifCond .lt 15, [60, 1, 1, 1, 1, 1, 1, 0, 1], 0), (.iload 8, [], 0), (.ifCond .ne 14, [64, 1, 1, 1, 1, 1, 1, 0, 1], 0), (.iload 7, [], 0), (.iload 5, [], 0), (.if_icmp .ge 7, [64, 1, 1, 1, 1, 1, 1, 0, 1], 0), (.nop, [60, 1, 1, 1, 1, 1, 1, 0, 1], 0)]),
  (60, [(.iconst 1, [], 0), (.goto 4, [65, 1, 1, 1, 1, 1, 1, 0, 1], 0)]),
  (64, [(.iconst 0, [], 0), (.nop, [65, 1, 1, 1, 1, 1, 1, 0, 1], 0)]),
  (65, [(.iadd, [], 0), (.istore 6, [], 0), (.iinc 7 1, [], 0), (.goto (-53), [18, 1, 1, 1, 1, 1, 1, 1, 1], 0)]),
  (74, [(.iload 6, [], 0), (.iload_n 2, [], 0), (.if_icmp .ne 8, [85, 1, 1, 1, 1, 1, 1], 0), (.iload 5, [], 0), (.goto 5, [87, 1, 1, 1, 1, 0, 1], 0)]),
  (85, [(.iload 4, [], 0), (.nop, [87, 1, 1, 1, 1, 0, 1], 0)]),
  (87, [(.istore 4, [], 0), (.iinc 5 1, [], 0), (.goto (-86), [6, 1, 1, 1, 1, 1, 1], 0)]),
  (95, [(.iload 4, [], 0), (.ireturn, [0], 0)])]
/-- MindReadersModel.dealt(II)I -/
def zc_50 : List (Nat × List zE) := [(0, [(.aload_n 0, [], 0), (.iload_n 1, [], 0), (.invokevirtual 138, [9, 2, 1, 2, 7], 0), (.ifCond .ne 6, [11, 1, 1, 1], 0), (.bipush (-101), [], 0), (.ireturn, [0], 0)]),
  (11, [(.iload_n 2, [], 0), (.invokestatic 193, [43, 1, 1, 1], 0), (.ifCond .ne 20, [35, 1, 1, 1], 0), (.iload_n 2, [], 0), (.i2l, [], 0), (.ldc2_w 212, [], 10), (.ldc2_w 214, [], 17), (.invokestatic 75, [2, 3, 1, 6], 0), (.ifCond .ne 6, [35, 1, 1, 1], 0), (.bipush (-102), [], 0), (.ireturn, [0], 0)]),
  (35, [(.aload_n 0, [], 0), (.iload_n 1, [], 0), (.invokevirtual 196, [40, 2, 1, 2, 7], 0), (.istore_n 3, [], 0), (.iload_n 3, [], 0), (.ifCond .ne 6, [48, 1, 1, 1, 1], 0), (.bipush (-103), [], 0), (.ireturn, [0], 0)]),
  (48, [(.iload_n 2, [], 0), (.iconst 1, [], 0), (.if_icmp .le 31, [81, 1, 1, 1, 1], 0), (.iload_n 2, [], 0), (.bipush 10, [], 0), (.isub, [], 0), (.iload_n 3, [], 0), (.if_icmp .ge 21, [79], 0), (.aload_n 0, [], 0), (.iload_n 1, [], 0), (.aload_n 0, [], 0), (.iload_n 2, [], 0), (.bipush 10, [], 0), (.isub, [], 0), (.iload_n 3, [], 0), (.invokevirtual 216, [48, 3, 1, 5, 7], 0), (.iload_n 3, [], 0), (.invokevirtual 219, [49, 4, 1, 9, 7], 0), (.goto 4, [80], 0)]),
  (79, [(.iconst (-1), [], 0), (.nop, [80], 0)]),
  (80, [(.ireturn, [0], 0)]),
  (81, [(.iconst 0, [], 0), (.istore 4, [], 0), (.iconst 0, [], 0), (.istore 5, [], 0), (.nop, [87, 1, 1, 1, 1, 1, 1], 0)]),
  (87, [(.iload 5, [], 0), (.iload_n 3, [], 0), (.if_icmp .ge 40, [130, 1, 0, 1, 1, 1], 0), (.iload 4, [], 0), (.aload_n 0, [], 0), (.getfield 25, [7, 11, 2], 0), (.iload 5, [], 0), (.iaload, [], 0), (.aload_n 0, [], 0), (.iload_n 1, [], 0), (.aload_n 0, [], 0), (.iload_n 1, [], 0), (.aload_n 0, [], 0), (.iload 5, [], 0), (.iload_n 3, [], 0), (.invokevirtual 216, [48, 3, 1, 5, 7], 0), (.iload_n 3, [], 0), (.invokevirtual 219, [49, 4, 1, 9, 7], 0), (.invokevirtual 134, [23, 3, 1, 6, 7], 0), (.imul, [], 0), (.iadd, [], 0), (.istore 4, [], 0), (.iinc 5 1, [], 0), (.goto (-40), [87, 1, 1, 1, 1, 1, 1], 0)]),
  (130, [(.iload 4, [], 0), (.i2l, [], 0), (.aload_n 0, [], 0), (.iload_n 3, [], 0), (.invokevirtual 199, [44, 2, 1, 4, 7], 0), (.i2l, [], 0), (.iload_n 2, [], 0), (.invokestatic 202, [42, 3, 2, 7], 0), (.l2i, [], 0), (.ireturn, [0], 0)])]
/-- MindReadersModel.takeLeast(I)I -/
def zc_51 : List (Nat × List zE) := [(0, [(.iconst (-1), [], 0), (.istore_n 2, [], 0), (.iconst 0, [], 0), (.istore_n 3, [], 0), (.nop, [4, 1, 1, 1, 1], 0)]),
  (4, [(.iload_n 3, [], 0), (.iload_n 1, [], 0), (.if_icmp .ge 44, [50, 1, 0, 1], 0), (.aload_n 0, [], 0), (.getfield 37, [7, 17, 2], 0), (.iload_n 3, [], 0), (.iaload, [], 0), (.ifCond .lt 27, [42, 1, 1, 1, 1], 0), (.iload_n 2, [], 0), (.iconst (-1), [], 0), (.if_icmp .eq 18, [38, 1, 1, 0, 1], 0), (.aload_n 0, [], 0), (.getfield 37, [7, 17, 2], 0), (.iload_n 3, [], 0), (.iaload, [], 0), (.aload_n 0, [], 0), (.getfield 37, [7, 17, 2], 0), (.iload_n 2, [], 0), (.iaload, [], 0), (.if_icmp .ge 7, [42, 1, 1, 1, 1], 0), (.nop, [38, 1, 1, 0, 1], 0)]),
  (38, [(.iload_n 3, [], 0), (.goto 4, [43, 1, 1, 0, 1], 0)]),
  (42, [(.iload_n 2, [], 0), (.nop, [43, 1, 1, 0, 1], 0)]),
  (43, [(.istore_n 2, [], 0), (.iinc 3 1, [], 0), (.goto (-43), [4, 1, 1, 1, 1], 0)]),
  (50, [(.aload_n 0, [], 0), (.getfield 37, [7, 17, 2], 0), (.iload_n 2, [], 0), (.iaload, [], 0), (.istore_n 3, [], 0), (.aload_n 0, [], 0), (.getfield 37, [7, 17, 2], 0), (.iload_n 2, [], 0), (.iconst (-1), [], 0), (.iastore, [], 0), (.iload_n 3, [], 0), (.ireturn, [0], 0)])]
/-- MindReadersModel.shortNow(I)I -/
def zc_52 : List (Nat × List zE) := [(0, [(.aload_n 0, [], 0), (.getfield 104, [7, 10, 0], 0), (.istore_n 2, [], 0), (.nop, [5, 1, 1, 1], 0)]),
  (5, [(.iload_n 2, [], 0), (.iconst 1, [], 0), (.isub, [], 0), (.iload_n 1, [], 0), (.iconst 1, [], 0), (.isub, [], 0), (.irem, [], 0), (.ifCond .le 9, [21, 1, 1, 1], 0), (.iinc 2 1, [], 0), (.goto (-13), [5, 1, 1, 1], 0)]),
  (21, [(.iconst 0, [], 0), (.istore_n 3, [], 0), (.nop, [23, 1, 1, 1, 1], 0)]),
  (23, [(.iload_n 3, [], 0), (.iload_n 2, [], 0), (.if_icmp .ge 33, [58, 1, 1, 1], 0), (.aload_n 0, [], 0), (.getfield 37, [7, 17, 2], 0), (.iload_n 3, [], 0), (.iload_n 3, [], 0), (.aload_n 0, [], 0), (.getfield 104, [7, 10, 0], 0), (.if_icmp .ge 12, [50, 1, 1, 1, 1], 0), (.aload_n 0, [], 0), (.getfield 25, [7, 11, 2], 0), (.iload_n 3, [], 0), (.iaload, [], 0), (.goto 4, [51, 1, 1, 1, 1], 0)]),
  (50, [(.iconst 0, [], 0), (.nop, [51, 1, 1, 1, 1], 0)]),
  (51, [(.iastore, [], 0), (.iinc 3 1, [], 0), (.goto (-32), [23, 1, 1, 1, 1], 0)]),
  (58, [(.iconst 0, [], 0), (.istore_n 3, [], 0), (.iload_n 2, [], 0), (.istore 4, [], 0), (.nop, [63, 1, 1, 1, 1, 1], 0)]),
  (63, [(.iload 4, [], 0), (.iconst 1, [], 0), (.if_icmp .le 75, [141, 0, 0, 0, 1], 0), (.iconst 0, [], 0), (.istore 5, [], 0), (.iconst 0, [], 0), (.istore 6, [], 0), (.nop, [75, 1, 1, 1, 1, 1, 1, 1], 0)]),
  (75, [(.iload 6, [], 0), (.iload_n 1, [], 0), (.if_icmp .ge 19, [97, 1, 1, 1, 1, 1, 1], 0), (.iload 5, [], 0), (.aload_n 0, [], 0), (.iload_n 2, [], 0), (.invokevirtual 222, [51, 2, 1, 4, 7], 0), (.iadd, [], 0), (.istore 5, [], 0), (.iinc 6 1, [], 0), (.goto (-19), [75, 1, 1, 1, 1, 1, 1, 1], 0)]),
  (97, [(.iconst 0, [], 0), (.istore 6, [], 0), (.nop, [100, 1, 1, 1, 1, 1, 1, 1], 0)]),
  (100, [(.aload_n 0, [], 0), (.getfield 37, [7, 17, 2], 0), (.iload 6, [], 0), (.iaload, [], 0), (.ifCond .lt 9, [116, 1, 1, 1, 1, 1, 1, 1], 0), (.iinc 6 1, [], 0), (.goto (-13), [100, 1, 1, 1, 1, 1, 1, 1], 0)]),
  (116, [(.aload_n 0, [], 0), (.getfield 37, [7, 17, 2], 0), (.iload 6, [], 0), (.iload 5, [], 0), (.iastore, [], 0), (.iload_n 3, [], 0), (.iload 5, [], 0), (.iadd, [], 0), (.istore_n 3, [], 0), (.iload 4, [], 0), (.iload_n 1, [], 0), (.iconst 1, [], 0), (.isub, [], 0), (.isub, [], 0), (.istore 4, [], 0), (.goto (-75), [63, 1, 1, 1, 1, 1], 0)]),
  (141, [(.iload_n 3, [], 0), (.ireturn, [0], 0)])]
/-- MindReadersModel.shortest(II)I -/
def zc_53 : List (Nat × List zE) := [(0, [(.iload_n 1, [], 0), (.i2l, [], 0), (.ldc2_w 168, [], 2), (.ldc2_w 225, [], 8), (.invokestatic 75, [2, 3, 1, 6], 0), (.ifCond .eq 10, [21], 0), (.iload_n 2, [], 0), (.invokestatic 193, [43, 1, 1, 1], 0), (.ifCond .ne 6, [24, 1, 1, 1], 0), (.nop, [21], 0)]),
  (21, [(.bipush (-102), [], 0), (.ireturn, [0], 0)]),
  (24, [(.aload_n 0, [], 0), (.getfield 104, [7, 10, 0], 0), (.ifCond .ne 6, [34, 1, 1, 1], 0), (.bipush (-103), [], 0), (.ireturn, [0], 0)]),
  (34, [(.aload_n 0, [], 0), (.iload_n 1, [], 0), (.invokevirtual 227, [52, 2, 1, 7, 7], 0), (.i2l, [], 0), (.aload_n 0, [], 0), (.aload_n 0, [], 0), (.getfield 104, [7, 10, 0], 0), (.invokevirtual 199, [44, 2, 1, 4, 7], 0), (.i2l, [], 0), (.iload_n 2, [], 0), (.invokestatic 202, [42, 3, 2, 7], 0), (.l2i, [], 0), (.ireturn, [0], 0)])]
/-- MindReadersModel.apartOf(I)I -/
def zc_54 : List (Nat × List zE) := [(0, [(.aload_n 0, [], 0), (.iload_n 1, [], 0), (.iconst 0, [], 0), (.invokevirtual 153, [22, 3, 0, 5, 7], 0), (.aload_n 0, [], 0), (.getfield 16, [7, 6, 2], 0), (.iload_n 1, [], 0), (.iaload, [], 0), (.iconst 2, [], 0), (.if_icmp .ge 7, [20, 1, 1], 0), (.iconst (-1), [], 0), (.goto 5, [22, 1, 1], 0)]),
  (20, [(.ldc 149, [], 1000000), (.nop, [22, 1, 1], 0)]),
  (22, [(.istore_n 2, [], 0), (.iconst 0, [], 0), (.istore_n 3, [], 0), (.nop, [25, 1, 1, 1, 1], 0)]),
  (25, [(.iload_n 3, [], 0), (.aload_n 0, [], 0), (.getfield 16, [7, 6, 2], 0), (.iload_n 1, [], 0), (.iaload, [], 0), (.if_icmp .ge 160, [192, 0, 0, 1], 0), (.iload_n 3, [], 0), (.iconst 1, [], 0), (.iadd, [], 0), (.istore 4, [], 0), (.nop, [40, 1, 1, 1, 1, 1], 0)]),
  (40, [(.iload 4, [], 0), (.aload_n 0, [], 0), (.getfield 16, [7, 6, 2], 0), (.iload_n 1, [], 0), (.iaload, [], 0), (.if_icmp .ge 138, [186, 1, 1, 1, 1], 0), (.iconst 0, [], 0), (.istore 5, [], 0), (.iconst 0, [], 0), (.istore 6, [], 0), (.nop, [57, 1, 1, 1, 1, 1, 1, 1], 0)]),
  (57, [(.iload 6, [], 0), (.aload_n 0, [], 0), (.getfield 31, [7, 14, 2], 0), (.bipush 11, [], 0), (.iload_n 3, [], 0), (.imul, [], 0), (.iaload, [], 0), (.if_icmp .ge 73, [141, 1, 1, 1, 1, 1, 1], 0), (.aload_n 0, [], 0), (.getfield 31, [7, 14, 2], 0), (.bipush 11, [], 0), (.iload_n 3, [], 0), (.imul, [], 0), (.iaload, [], 0), (.aload_n 0, [], 0), (.getfield 31, [7, 14, 2], 0), (.bipush 11, [], 0), (.iload 4, [], 0), (.imul, [], 0), (.iaload, [], 0), (.if_icmp .ne 51, [141, 1, 1, 1, 1, 1, 1], 0), (.iload 5, [], 0), (.aload_n 0, [], 0), (.getfield 31, [7, 14, 2], 0), (.bipush 11, [], 0), (.iload_n 3, [], 0), (.imul, [], 0), (.iconst 1, [], 0), (.iadd, [], 0), (.iload 6, [], 0), (.iadd, [], 0), (.iaload, [], 0), (.aload_n 0, [], 0), (.getfield 31, [7, 14, 2], 0), (.bipush 11, [], 0), (.iload 4, [], 0), (.imul, [], 0), (.iconst 1, [], 0), (.iadd, [], 0), (.iload 6, [], 0), (.iadd, [], 0), (.iaload, [], 0), (.if_icmp .ne 7, [131, 1, 1, 1, 1, 1, 0, 1], 0), (.iconst 0, [], 0), (.goto 4, [132, 1, 1, 1, 1, 1, 0, 1], 0)]),
  (131, [(.iconst 1, [], 0), (.nop, [132, 1, 1, 1, 1, 1, 0, 1], 0)]),
  (132, [(.iadd, [], 0), (.istore 5, [], 0), (.iinc 6 1, [], 0), (.goto (-81), [57, 1, 1, 1, 1, 1, 1, 1], 0)]),
  (141, [(.aload_n 0, [], 0), (.getfield 31, [7, 14, 2], 0), (.bipush 11, [], 0), (.iload_n 3, [], 0), (.imul, [], 0), (.iaload, [], 0), (.aload_n 0, [], 0), (.getfield 31, [7, 14, 2], 0), (.bipush 11, [], 0), (.iload 4, [], 0), (.imul, [], 0), (.iaload, [], 0), (.if_icmp .eq 7, [167, 1, 1, 1, 1, 1, 1], 0), (.iconst (-1), [], 0), (.goto 15, [179, 1, 1, 0, 1, 1], 0)]),
  (167, [(.iload 5, [], 0), (.iload_n 2, [], 0), (.if_icmp .ge 8, [178, 1, 1, 1, 1, 1], 0), (.iload 5, [], 0), (.goto 4, [179, 1, 1, 0, 1, 1], 0)]),
  (178, [(.iload_n 2, [], 0), (.nop, [179, 1, 1, 0, 1, 1], 0)]),
  (179, [(.istore_n 2, [], 0), (.iinc 4 1, [], 0), (.goto (-143), [40, 1, 1, 1, 1, 1], 0)]),
  (186, [(.iinc 3 1, [], 0), (.goto (-164), [25, 1, 1, 1, 1], 0)]),
  (192, [(.iload_n 2, [], 0), (.ireturn, [0], 0)])]
/-- MindReadersModel.apart(I)I -/
def zc_55 : List (Nat × List zE) := [(0, [(.aload_n 0, [], 0), (.iload_n 1, [], 0), (.invokevirtual 138, [9, 2, 1, 2, 7], 0), (.ifCond .eq 11, [16], 0), (.aload_n 0, [], 0), (.iload_n 1, [], 0), (.invokevirtual 230, [54, 2, 1, 7, 7], 0), (.goto 5, [18], 0)]),
  (16, [(.bipush (-101), [], 0), (.nop, [18], 0)]),
  (18, [(.ireturn, [0], 0)])]
/-- MindReadersModel.named(I)I -/
def zc_56 : List (Nat × List zE) := [(0, [(.aload_n 0, [], 0), (.iload_n 1, [], 0), (.invokevirtual 138, [9, 2, 1, 2, 7], 0), (.ifCond .ne 6, [11, 1, 1], 0), (.bipush (-101), [], 0), (.ireturn, [0], 0)]),
  (11, [(.aload_n 0, [], 0), (.iload_n 1, [], 0), (.iconst 0, [], 0), (.invokevirtual 153, [22, 3, 0, 5, 7], 0), (.aload_n 0, [], 0), (.invokevirtual 157, [28, 1, 1, 3, 7], 0), (.ifCond .eq 11, [32], 0), (.aload_n 0, [], 0), (.iload_n 1, [], 0), (.invokevirtual 161, [30, 2, 1, 6, 7], 0), (.goto 5, [34], 0)]),
  (32, [(.bipush (-103), [], 0), (.nop, [34], 0)]),
  (34, [(.ireturn, [0], 0)])]
/-- MindReadersModel.isAmong(II)Z -/
def zc_57 : List (Nat × List zE) := [(0, [(.aload_n 0, [], 0), (.getfield 31, [7, 14, 2], 0), (.bipush 11, [], 0), (.iload_n 1, [], 0), (.imul, [], 0), (.iaload, [], 0), (.iconst 4, [], 0), (.if_icmp .gt 7, [17, 1, 1, 1], 0), (.iconst 1, [], 0), (.goto 4, [18, 1, 1, 1], 0)]),
  (17, [(.iconst 0, [], 0), (.nop, [18, 1, 1, 1], 0)]),
  (18, [(.istore_n 3, [], 0), (.iconst 0, [], 0), (.istore 4, [], 0), (.nop, [22, 1, 1, 1, 1, 1], 0)]),
  (22, [(.iload 4, [], 0), (.aload_n 0, [], 0), (.getfield 31, [7, 14, 2], 0), (.bipush 11, [], 0), (.iload_n 1, [], 0), (.imul, [], 0), (.iaload, [], 0), (.if_icmp .ge 37, [70, 0, 0, 0, 1], 0), (.iload_n 3, [], 0), (.ifCond .eq 25, [62, 1, 1, 1, 0, 1], 0), (.aload_n 0, [], 0), (.getfield 31, [7, 14, 2], 0), (.bipush 11, [], 0), (.iload_n 1, [], 0), (.imul, [], 0), (.iconst 1, [], 0), (.iadd, [], 0), (.iload 4, [], 0), (.iadd, [], 0), (.iaload, [], 0), (.iload_n 2, [], 0), (.if_icmp .ge 7, [62, 1, 1, 1, 0, 1], 0), (.iconst 1, [], 0), (.goto 4, [63, 1, 1, 1, 0, 1], 0)]),
  (62, [(.iconst 0, [], 0), (.nop, [63, 1, 1, 1, 0, 1], 0)]),
  (63, [(.istore_n 3, [], 0), (.iinc 4 1, [], 0), (.goto (-45), [22, 1, 1, 1, 1, 1], 0)]),
  (70, [(.iload_n 3, [], 0), (.ireturn, [1], 0)])]
/-- MindReadersModel.right(IIIII)J -/
def zc_58 : List (Nat × List zE) := [(0, [(.aload_n 0, [], 0), (.iload_n 1, [], 0), (.invokevirtual 138, [9, 2, 1, 2, 7], 0), (.ifCond .eq 20, [25], 0), (.iload_n 2, [], 0), (.i2l, [], 0), (.lconst 0, [], 0), (.aload_n 0, [], 0), (.iload_n 1, [], 0), (.invokevirtual 196, [40, 2, 1, 2, 7], 0), (.iconst 1, [], 0), (.isub, [], 0), (.i2l, [], 0), (.invokestatic 75, [2, 3, 1, 6], 0), (.ifCond .ne 7, [29, 1, 1, 1, 1, 1, 1], 0), (.nop, [25], 0)]),
  (25, [(.ldc2_w 233, [], -101), (.lreturn, [], 0)]),
  (29, [(.iload_n 3, [], 0), (.i2l, [], 0), (.ldc2_w 168, [], 2), (.ldc2_w 225, [], 8), (.invokestatic 75, [2, 3, 1, 6], 0), (.ifCond .eq 24, [64], 0), (.iload 4, [], 0), (.i2l, [], 0), (.lconst 0, [], 0), (.ldc2_w 212, [], 10), (.invokestatic 75, [2, 3, 1, 6], 0), (.ifCond .eq 11, [64], 0), (.iload 5, [], 0), (.invokestatic 193, [43, 1, 1, 1], 0), (.ifCond .ne 7, [68, 1, 1, 1, 1, 1, 1], 0), (.nop, [64], 0)]),
  (64, [(.ldc2_w 235, [], -102), (.lreturn, [], 0)]),
  (68, [(.aload_n 0, [], 0), (.iload_n 1, [], 0), (.iconst 0, [], 0), (.invokevirtual 153, [22, 3, 0, 5, 7], 0), (.aload_n 0, [], 0), (.iload_n 2, [], 0), (.iload_n 3, [], 0), (.invokevirtual 237, [57, 3, 1, 5, 7], 0), (.ifCond .ne 7, [87, 1, 1, 1, 1, 1, 1], 0), (.ldc2_w 240, [], -103), (.lreturn, [], 0)]),
  (87, [(.aload_n 0, [], 0), (.getfield 31, [7, 14, 2], 0), (.bipush 11, [], 0), (.iload_n 2, [], 0), (.imul, [], 0), (.iaload, [], 0), (.istore 6, [], 0), (.iconst 1, [], 0), (.istore 7, [], 0), (.lconst 1, [], 0), (.lstore 8, [], 0), (.iconst 0, [], 0), (.istore 10, [], 0), (.nop, [107, 1, 1, 1, 1, 1, 1, 1, 1, 1, 0, 1], 0)]),
  (107, [(.iload 10, [], 0), (.iload 6, [], 0), (.if_icmp .ge 28, [139, 1, 1, 1, 1, 1, 1, 1, 1, 1], 0), (.iload 7, [], 0), (.iload_n 3, [], 0), (.imul, [], 0), (.istore 7, [], 0), (.lload 8, [], 0), (.ldc2_w 212, [], 10), (.iload_n 3, [], 0), (.iconst 1, [], 0), (.isub, [], 0), (.i2l, [], 0), (.lmul, [], 0), (.lmul, [], 0), (.lstore 8, [], 0), (.iinc 10 1, [], 0), (.goto (-29), [107, 1, 1, 1, 1, 1, 1, 1, 1, 1, 0, 1], 0)]),
  (139, [(.lconst 0, [], 0), (.lstore 10, [], 0), (.aload_n 0, [], 0), (.iload 6, [], 0), (.putfield 114, [7, 13, 0], 0), (.iconst 0, [], 0), (.istore 12, [], 0), (.nop, [151, 1, 1, 1, 1, 1, 1, 1, 1, 1, 0, 1, 0, 1], 0)]),
  (151, [(.iload 12, [], 0), (.iload 7, [], 0), (.if_icmp .ge 116, [271, 0, 0, 0, 0, 0, 1, 0, 0, 1, 0, 1], 0), (.iload 12, [], 0), (.istore 13, [], 0), (.lconst 1, [], 0), (.lstore 14, [], 0), (.iconst 0, [], 0), (.istore 16, [], 0), (.nop, [168, 1, 1, 1, 1, 1, 1, 1, 1, 1, 0, 1, 0, 1, 1, 1, 0, 1], 0)]),
  (168, [(.iload 16, [], 0), (.iload 6, [], 0), (.if_icmp .ge 73, [245, 1, 1, 1, 1, 1, 1, 1, 1, 1, 0, 1, 0, 1, 0, 1], 0), (.aload_n 0, [], 0), (.getfield 28, [7, 12, 2], 0), (.iload 16, [], 0), (.iload 13, [], 0), (.iload_n 3, [], 0), (.irem, [], 0), (.iastore, [], 0), (.iload 13, [], 0), (.iload_n 3, [], 0), (.idiv, [], 0), (.istore 13, [], 0), (.lload 14, [], 0), (.aload_n 0, [], 0), (.getfield 28, [7, 12, 2], 0), (.iload 16, [], 0), (.iaload, [], 0), (.aload_n 0, [], 0), (.getfield 31, [7, 14, 2], 0), (.bipush 11, [], 0), (.iload_n 2, [], 0), (.imul, [], 0), (.iconst 1, [], 0), (.iadd, [], 0), (.iload 16, [], 0), (.iadd, [], 0), (.iaload, [], 0), (.if_icmp .ne 18, [233, 1, 1, 1, 1, 1, 1, 1, 1, 1, 0, 1, 0, 1, 1, 0, 0, 1], 0), (.ldc2_w 212, [], 10), (.iload 4, [], 0), (.i2l, [], 0), (.lsub, [], 0), (.iload_n 3, [], 0), (.iconst 1, [], 0), (.isub, [], 0), (.i2l, [], 0), (.lmul, [], 0), (.goto 6, [236, 1, 1, 1, 1, 1, 1, 1, 1, 1, 0, 1, 0, 1, 1, 0, 0, 1], 0)]),
  (233, [(.iload 4, [], 0), (.i2l, [], 0), (.nop, [236, 1, 1, 1, 1, 1, 1, 1, 1, 1, 0, 1, 0, 1, 1, 0, 0, 1], 0)]),
  (236, [(.lmul, [], 0), (.lstore 14, [], 0), (.iinc 16 1, [], 0), (.goto (-74), [168, 1, 1, 1, 1, 1, 1, 1, 1, 1, 0, 1, 0, 1, 1, 1, 0, 1], 0)]),
  (245, [(.lload 10, [], 0), (.aload_n 0, [], 0), (.iload_n 1, [], 0), (.invokevirtual 161, [30, 2, 1, 6, 7], 0), (.iload_n 2, [], 0), (.if_icmp .ne 8, [261, 1, 1, 1, 1, 1, 1, 1, 1, 1, 0, 0, 0, 1], 0), (.lload 14, [], 0), (.goto 4, [262, 1, 1, 1, 1, 1, 1, 1, 1, 1, 0, 0, 0, 1], 0)]),
  (261, [(.lconst 0, [], 0), (.nop, [262, 1, 1, 1, 1, 1, 1, 1, 1, 1, 0, 0, 0, 1], 0)]),
  (262, [(.ladd, [], 0), (.lstore 10, [], 0), (.iinc 12 1, [], 0), (.goto (-117), [151, 1, 1, 1, 1, 1, 1, 1, 1, 1, 0, 1, 0, 1], 0)]),
  (271, [(.lload 10, [], 0), (.lload 8, [], 0), (.iload 5, [], 0), (.invokestatic 202, [42, 3, 2, 7], 0), (.lreturn, [], 0)])]
/-- MindReadersModel.note(I)I -/
def zc_59 : List (Nat × List zE) := [(0, [(.aload_n 0, [], 0), (.iload_n 1, [], 0), (.invokevirtual 107, [15, 2, 1, 2, 7], 0), (.ifCond .ne 6, [11, 1, 1], 0), (.bipush (-101), [], 0), (.ireturn, [0], 0)]),
  (11, [(.aload_n 0, [], 0), (.invokevirtual 157, [28, 1, 1, 3, 7], 0), (.ifCond .eq 12, [27], 0), (.aload_n 0, [], 0), (.getfield 62, [7, 1, 0], 0), (.bipush 8, [], 0), (.if_icmp .le 6, [30, 1, 1], 0), (.nop, [27], 0)]),
  (27, [(.bipush (-103), [], 0), (.ireturn, [0], 0)]),
  (30, [(.aload_n 0, [], 0), (.getfield 242, [7, 18, 0], 0), (.bipush 10, [], 0), (.if_icmp .ne 6, [42, 1, 1], 0), (.bipush (-104), [], 0), (.ireturn, [0], 0)]),
  (42, [(.aload_n 0, [], 0), (.getfield 40, [7, 19, 2], 0), (.bipush 10, [], 0), (.aload_n 0, [], 0), (.getfield 242, [7, 18, 0], 0), (.imul, [], 0), (.iload_n 1, [], 0), (.iastore, [], 0), (.aload_n 0, [], 0), (.getfield 40, [7, 19, 2], 0), (.bipush 10, [], 0), (.aload_n 0, [], 0), (.getfield 242, [7, 18, 0], 0), (.imul, [], 0), (.iconst 1, [], 0), (.iadd, [], 0), (.aload_n 0, [], 0), (.getfield 62, [7, 1, 0], 0), (.iastore, [], 0), (.iconst 0, [], 0), (.istore_n 2, [], 0), (.nop, [75, 1, 0, 1], 0)]),
  (75, [(.iload_n 2, [], 0), (.aload_n 0, [], 0), (.getfield 62, [7, 1, 0], 0), (.if_icmp .ge 34, [114, 1], 0), (.aload_n 0, [], 0), (.getfield 40, [7, 19, 2], 0), (.bipush 10, [], 0), (.aload_n 0, [], 0), (.getfield 242, [7, 18, 0], 0), (.imul, [], 0), (.iconst 2, [], 0), (.iadd, [], 0), (.iload_n 2, [], 0), (.iadd, [], 0), (.aload_n 0, [], 0), (.getfield 7, [7, 0, 2], 0), (.iload_n 2, [], 0), (.iaload, [], 0), (.bipush 97, [], 0), (.isub, [], 0), (.iastore, [], 0), (.iinc 2 1, [], 0), (.goto (-36), [75, 1, 0, 1], 0)]),
  (114, [(.aload_n 0, [], 0), (.dup, [], 0), (.getfield 242, [7, 18, 0], 0), (.iconst 1, [], 0), (.iadd, [], 0), (.putfield 242, [7, 18, 0], 0), (.aload_n 0, [], 0), (.iconst 0, [], 0), (.putfield 62, [7, 1, 0], 0), (.aload_n 0, [], 0), (.getfield 242, [7, 18, 0], 0), (.ireturn, [0], 0)])]
/-- MindReadersModel.forget()I -/
def zc_60 : List (Nat × List zE) := [(0, [(.aload_n 0, [], 0), (.getfield 242, [7, 18, 0], 0), (.istore_n 1, [], 0), (.aload_n 0, [], 0), (.iconst 0, [], 0), (.putfield 242, [7, 18, 0], 0), (.iload_n 1, [], 0), (.ireturn, [0], 0)])]
/-- MindReadersModel.isSaid(III)Z -/
def zc_61 : List (Nat × List zE) := [(0, [(.iload_n 3, [], 0), (.aload_n 0, [], 0), (.getfield 16, [7, 6, 2], 0), (.iload_n 2, [], 0), (.iaload, [], 0), (.if_icmp .lt 5, [12, 1, 1, 0, 1], 0), (.iconst 0, [], 0), (.ireturn, [1], 0)]),
  (12, [(.aload_n 0, [], 0), (.iconst 0, [], 0), (.putfield 114, [7, 13, 0], 0), (.iconst 0, [], 0), (.istore 4, [], 0), (.nop, [20, 1, 1, 0, 1, 1], 0)]),
  (20, [(.iload 4, [], 0), (.aload_n 0, [], 0), (.getfield 40, [7, 19, 2], 0), (.bipush 10, [], 0), (.iload_n 1, [], 0), (.imul, [], 0), (.iconst 1, [], 0), (.iadd, [], 0), (.iaload, [], 0), (.if_icmp .ge 27, [60, 1, 0, 0, 1], 0), (.aload_n 0, [], 0), (.aload_n 0, [], 0), (.getfield 40, [7, 19, 2], 0), (.bipush 10, [], 0), (.iload_n 1, [], 0), (.imul, [], 0), (.iconst 2, [], 0), (.iadd, [], 0), (.iload 4, [], 0), (.iadd, [], 0), (.iaload, [], 0), (.invokevirtual 117, [20, 2, 0, 3, 7], 0), (.iinc 4 1, [], 0), (.goto (-37), [20, 1, 1, 0, 1, 1], 0)]),
  (60, [(.aload_n 0, [], 0), (.iload_n 3, [], 0), (.invokevirtual 150, [29, 2, 1, 4, 7], 0), (.ifCond .ne 7, [72], 0), (.iconst 1, [], 0), (.goto 4, [73], 0)]),
  (72, [(.iconst 0, [], 0), (.nop, [73], 0)]),
  (73, [(.ireturn, [1], 0)])]
/-- MindReadersModel.whichNow()I -/
def zc_62 : List (Nat × List zE) := [(0, [(.iconst 0, [], 0), (.istore_n 1, [], 0), (.iconst 0, [], 0), (.istore_n 2, [], 0), (.nop, [4, 1, 1, 1], 0)]),
  (4, [(.iload_n 2, [], 0), (.aload_n 0, [], 0), (.getfield 87, [7, 5, 0], 0), (.if_icmp .ge 79, [88, 0, 1], 0), (.aload_n 0, [], 0), (.iload_n 2, [], 0), (.iconst 0, [], 0), (.invokevirtual 153, [22, 3, 0, 5, 7], 0), (.iconst 1, [], 0), (.istore_n 3, [], 0), (.iconst 0, [], 0), (.istore 4, [], 0), (.nop, [23, 1, 1, 1, 1, 1], 0)]),
  (23, [(.iload 4, [], 0), (.aload_n 0, [], 0), (.getfield 242, [7, 18, 0], 0), (.if_icmp .ge 39, [68, 1, 1, 1, 1], 0), (.iload_n 3, [], 0), (.ifCond .eq 27, [60, 1, 1, 1, 0, 1], 0), (.aload_n 0, [], 0), (.iload 4, [], 0), (.iload_n 2, [], 0), (.aload_n 0, [], 0), (.getfield 40, [7, 19, 2], 0), (.bipush 10, [], 0), (.iload 4, [], 0), (.imul, [], 0), (.iaload, [], 0), (.invokevirtual 245, [61, 4, 1, 5, 7], 0), (.ifCond .eq 7, [60, 1, 1, 1, 0, 1], 0), (.iconst 1, [], 0), (.goto 4, [61, 1, 1, 1, 0, 1], 0)]),
  (60, [(.iconst 0, [], 0), (.nop, [61, 1, 1, 1, 0, 1], 0)]),
  (61, [(.istore_n 3, [], 0), (.iinc 4 1, [], 0), (.goto (-42), [23, 1, 1, 1, 1, 1], 0)]),
  (68, [(.iload_n 1, [], 0), (.iload_n 3, [], 0), (.ifCond .eq 9, [79, 1, 0, 1], 0), (.iconst 1, [], 0), (.iload_n 2, [], 0), (.ishl, [], 0), (.goto 4, [80, 1, 0, 1], 0)]),
  (79, [(.iconst 0, [], 0), (.nop, [80, 1, 0, 1], 0)]),
  (80, [(.ior, [], 0), (.istore_n 1, [], 0), (.iinc 2 1, [], 0), (.goto (-81), [4, 1, 1, 1], 0)]),
  (88, [(.iload_n 1, [], 0), (.ireturn, [0], 0)])]
/-- MindReadersModel.which()I -/
def zc_63 : List (Nat × List zE) := [(0, [(.aload_n 0, [], 0), (.invokevirtual 248, [62, 1, 1, 5, 7], 0), (.ireturn, [0], 0)])]
/-- MindReadersModel.step(II)I -/
def zc_64 : List (Nat × List zE) := [(0, [(.aload_n 0, [], 0), (.iload_n 1, [], 0), (.invokevirtual 138, [9, 2, 1, 2, 7], 0), (.ifCond .ne 6, [11, 1, 1, 1], 0), (.bipush (-101), [], 0), (.ireturn, [0], 0)]),
  (11, [(.iload_n 2, [], 0), (.i2l, [], 0), (.lconst 0, [], 0), (.ldc2_w 102, [], 99), (.invokestatic 75, [2, 3, 1, 6], 0), (.ifCond .ne 6, [26, 1, 1, 1], 0), (.bipush (-102), [], 0), (.ireturn, [0], 0)]),
  (26, [(.aload_n 0, [], 0), (.iload_n 1, [], 0), (.invokevirtual 196, [40, 2, 1, 2, 7], 0), (.istore_n 3, [], 0), (.iload_n 3, [], 0), (.ifCond .ne 6, [39, 1, 1, 1, 1], 0), (.bipush (-103), [], 0), (.ireturn, [0], 0)]),
  (39, [(.aload_n 0, [], 0), (.iload_n 1, [], 0), (.iconst 0, [], 0), (.invokevirtual 153, [22, 3, 0, 5, 7], 0), (.iconst 0, [], 0), (.istore 4, [], 0), (.nop, [48, 1, 1, 1, 1, 1], 0)]),
  (48, [(.iload 4, [], 0), (.bipush 8, [], 0), (.if_icmp .ge 87, [139], 0), (.iconst 1, [], 0), (.istore 5, [], 0), (.iconst 0, [], 0), (.istore 6, [], 0), (.nop, [61, 1, 1, 1, 1, 1, 1, 1], 0)]),
  (61, [(.iload 6, [], 0), (.aload_n 0, [], 0), (.getfield 242, [7, 18, 0], 0), (.if_icmp .ge 58, [125, 1, 1, 1, 1, 1, 1], 0), (.aload_n 0, [], 0), (.getfield 40, [7, 19, 2], 0), (.bipush 10, [], 0), (.iload 6, [], 0), (.imul, [], 0), (.iaload, [], 0), (.istore 7, [], 0), (.iload 5, [], 0), (.ifCond .eq 32, [116, 1, 1, 1, 1, 1, 0, 1], 0), (.iload 7, [], 0), (.iload_n 3, [], 0), (.if_icmp .ge 26, [116, 1, 1, 1, 1, 1, 0, 1], 0), (.aload_n 0, [], 0), (.iload 6, [], 0), (.iload_n 1, [], 0), (.iload 7, [], 0), (.iload 4, [], 0), (.iload_n 2, [], 0), (.imul, [], 0), (.iadd, [], 0), (.iload_n 3, [], 0), (.irem, [], 0), (.invokevirtual 245, [61, 4, 1, 5, 7], 0), (.ifCond .eq 7, [116, 1, 1, 1, 1, 1, 0, 1], 0), (.iconst 1, [], 0), (.goto 4, [117, 1, 1, 1, 1, 1, 0, 1], 0)]),
  (116, [(.iconst 0, [], 0), (.nop, [117, 1, 1, 1, 1, 1, 0, 1], 0)]),
  (117, [(.istore 5, [], 0), (.iinc 6 1, [], 0), (.goto (-61), [61, 1, 1, 1, 1, 1, 1, 1], 0)]),
  (125, [(.iload 5, [], 0), (.ifCond .eq 6, [133, 1, 1, 1, 1, 1], 0), (.iload 4, [], 0), (.ireturn, [0], 0)]),
  (133, [(.iinc 4 1, [], 0), (.goto (-88), [48, 1, 1, 1, 1, 1], 0)]),
  (139, [(.iconst (-1), [], 0), (.ireturn, [0], 0)])]
/-- MindReadersModel.seen(II)J -/
def zc_65 : List (Nat × List zE) := [(0, [(.iload_n 1, [], 0), (.i2l, [], 0), (.lconst 1, [], 0), (.ldc2_w 251, [], 6), (.invokestatic 75, [2, 3, 1, 6], 0), (.ifCond .eq 10, [19], 0), (.iload_n 2, [], 0), (.invokestatic 193, [43, 1, 1, 1], 0), (.ifCond .ne 7, [23, 1, 1, 1], 0), (.nop, [19], 0)]),
  (19, [(.ldc2_w 235, [], -102), (.lreturn, [], 0)]),
  (23, [(.aload_n 0, [], 0), (.getfield 104, [7, 10, 0], 0), (.ifCond .ne 7, [34, 1, 1, 1], 0), (.ldc2_w 240, [], -103), (.lreturn, [], 0)]),
  (34, [(.iconst 0, [], 0), (.istore_n 3, [], 0), (.nop, [36, 1, 1, 1, 1], 0)]),
  (36, [(.iload_n 3, [], 0), (.sipush 256, [], 0), (.if_icmp .ge 24, [64, 1, 1, 1], 0), (.aload_n 0, [], 0), (.getfield 43, [7, 20, 2], 0), (.iload_n 3, [], 0), (.iload_n 3, [], 0), (.ifCond .ne 7, [56, 1, 1, 1, 1], 0), (.lconst 1, [], 0), (.goto 4, [57, 1, 1, 1, 1], 0)]),
  (56, [(.lconst 0, [], 0), (.nop, [57, 1, 1, 1, 1], 0)]),
  (57, [(.lastore, [], 0), (.iinc 3 1, [], 0), (.goto (-25), [36, 1, 1, 1, 1], 0)]),
  (64, [(.lconst 1, [], 0), (.lstore_n 3, [], 0), (.iconst 0, [], 0), (.istore 5, [], 0), (.nop, [69, 1, 1, 1, 1, 0, 1], 0)]),
  (69, [(.iload 5, [], 0), (.iload_n 1, [], 0), (.if_icmp .ge 138, [210, 1, 0, 1, 1], 0), (.lload_n 3, [], 0), (.aload_n 0, [], 0), (.aload_n 0, [], 0), (.getfield 104, [7, 10, 0], 0), (.invokevirtual 199, [44, 2, 1, 4, 7], 0), (.i2l, [], 0), (.lmul, [], 0), (.lstore_n 3, [], 0), (.iconst 0, [], 0), (.istore 6, [], 0), (.nop, [90, 1, 1, 1, 1, 0, 1, 1], 0)]),
  (90, [(.iload 6, [], 0), (.sipush 256, [], 0), (.if_icmp .ge 31, [126, 1, 1, 1, 1, 0, 1], 0), (.aload_n 0, [], 0), (.getfield 47, [7, 21, 2], 0), (.iload 6, [], 0), (.aload_n 0, [], 0), (.getfield 43, [7, 20, 2], 0), (.iload 6, [], 0), (.laload, [], 0), (.lastore, [], 0), (.aload_n 0, [], 0), (.getfield 43, [7, 20, 2], 0), (.iload 6, [], 0), (.lconst 0, [], 0), (.lastore, [], 0), (.iinc 6 1, [], 0), (.goto (-33), [90, 1, 1, 1, 1, 0, 1, 1], 0)]),
  (126, [(.iconst 0, [], 0), (.istore 6, [], 0), (.nop, [129, 1, 1, 1, 1, 0, 1, 1], 0)]),
  (129, [(.iload 6, [], 0), (.sipush 256, [], 0), (.if_icmp .ge 70, [204, 1, 1, 1, 1, 0, 1], 0), (.iconst 0, [], 0), (.istore 7, [], 0), (.nop, [140, 1, 1, 1, 1, 0, 1, 1, 1], 0)]),
  (140, [(.iload 7, [], 0), (.aload_n 0, [], 0), (.getfield 104, [7, 10, 0], 0), (.if_icmp .ge 52, [198, 1, 1, 1, 1, 0, 1, 1], 0), (.aload_n 0, [], 0), (.getfield 47, [7, 21, 2], 0), (.iload 6, [], 0), (.laload, [], 0), (.lconst 0, [], 0), (.lcmp, [], 0), (.ifCond .le 40, [198, 1, 1, 1, 1, 0, 1, 1], 0), (.aload_n 0, [], 0), (.getfield 43, [7, 20, 2], 0), (.iload 6, [], 0), (.iconst 1, [], 0), (.iload 7, [], 0), (.ishl, [], 0), (.ior, [], 0), (.dup2, [], 0), (.laload, [], 0), (.aload_n 0, [], 0), (.getfield 47, [7, 21, 2], 0), (.iload 6, [], 0), (.laload, [], 0), (.aload_n 0, [], 0), (.getfield 25, [7, 11, 2], 0), (.iload 7, [], 0), (.iaload, [], 0), (.i2l, [], 0), (.lmul, [], 0), (.ladd, [], 0), (.lastore, [], 0), (.iinc 7 1, [], 0), (.goto (-55), [140, 1, 1, 1, 1, 0, 1, 1, 1], 0)]),
  (198, [(.iinc 6 1, [], 0), (.goto (-72), [129, 1, 1, 1, 1, 0, 1, 1], 0)]),
  (204, [(.iinc 5 1, [], 0), (.goto (-138), [69, 1, 1, 1, 1, 0, 1], 0)]),
  (210, [(.aload_n 0, [], 0), (.getfield 43, [7, 20, 2], 0), (.iconst 1, [], 0), (.aload_n 0, [], 0), (.getfield 104, [7, 10, 0], 0), (.ishl, [], 0), (.iconst 1, [], 0), (.isub, [], 0), (.laload, [], 0), (.lload_n 3, [], 0), (.iload_n 2, [], 0), (.invokestatic 202, [42, 3, 2, 7], 0), (.lreturn, [], 0)])]
/-- MindReadersModel.isLike(III)Z -/
def zc_66 : List (Nat × List zE) := [(0, [(.bipush 48, [], 0), (.iload_n 1, [], 0), (.imul, [], 0), (.bipush 6, [], 0), (.iload_n 3, [], 0), (.imul, [], 0), (.iadd, [], 0), (.istore 4, [], 0), (.bipush 48, [], 0), (.iload_n 2, [], 0), (.imul, [], 0), (.bipush 6, [], 0), (.iload_n 3, [], 0), (.imul, [], 0), (.iadd, [], 0), (.istore 5, [], 0), (.aload_n 0, [], 0), (.getfield 19, [7, 7, 2], 0), (.iload 4, [], 0), (.iaload, [], 0), (.aload_n 0, [], 0), (.getfield 19, [7, 7, 2], 0), (.iload 5, [], 0), (.iaload, [], 0), (.if_icmp .ne 7, [43, 1, 0, 0, 0, 1, 1], 0), (.iconst 1, [], 0), (.goto 4, [44, 1, 0, 0, 0, 1, 1], 0)]),
  (43, [(.iconst 0, [], 0), (.nop, [44, 1, 0, 0, 0, 1, 1], 0)]),
  (44, [(.istore 6, [], 0), (.iconst 1, [], 0), (.istore 7, [], 0), (.nop, [49, 1, 0, 0, 0, 1, 1, 1, 1], 0)]),
  (49, [(.iload 7, [], 0), (.aload_n 0, [], 0), (.getfield 19, [7, 7, 2], 0), (.iload 4, [], 0), (.iaload, [], 0), (.if_icmp .gt 44, [102, 0, 0, 0, 0, 0, 0, 1], 0), (.iload 6, [], 0), (.ifCond .eq 39, [102, 0, 0, 0, 0, 0, 0, 1], 0), (.aload_n 0, [], 0), (.getfield 19, [7, 7, 2], 0), (.iload 4, [], 0), (.iload 7, [], 0), (.iadd, [], 0), (.iaload, [], 0), (.aload_n 0, [], 0), (.getfield 19, [7, 7, 2], 0), (.iload 5, [], 0), (.iload 7, [], 0), (.iadd, [], 0), (.iaload, [], 0), (.if_icmp .ne 7, [93, 1, 0, 0, 0, 1, 1, 0, 1], 0), (.iconst 1, [], 0), (.goto 4, [94, 1, 0, 0, 0, 1, 1, 0, 1], 0)]),
  (93, [(.iconst 0, [], 0), (.nop, [94, 1, 0, 0, 0, 1, 1, 0, 1], 0)]),
  (94, [(.istore 6, [], 0), (.iinc 7 1, [], 0), (.goto (-50), [49, 1, 0, 0, 0, 1, 1, 1, 1], 0)]),
  (102, [(.iload 6, [], 0), (.ireturn, [1], 0)])]
/-- MindReadersModel.changeOf(II)I -/
def zc_67 : List (Nat × List zE) := [(0, [(.iconst 0, [], 0), (.istore_n 3, [], 0), (.iconst 0, [], 0), (.istore 4, [], 0), (.nop, [5, 1, 1, 1, 1, 1], 0)]),
  (5, [(.iload 4, [], 0), (.aload_n 0, [], 0), (.getfield 16, [7, 6, 2], 0), (.iload_n 2, [], 0), (.iaload, [], 0), (.if_icmp .ge 57, [70, 0, 0, 0, 1], 0), (.iload 4, [], 0), (.aload_n 0, [], 0), (.getfield 16, [7, 6, 2], 0), (.iload_n 1, [], 0), (.iaload, [], 0), (.if_icmp .ge 18, [42, 1, 1, 1, 1, 1], 0), (.aload_n 0, [], 0), (.iload_n 1, [], 0), (.iload_n 2, [], 0), (.iload 4, [], 0), (.invokevirtual 253, [66, 4, 1, 8, 7], 0), (.ifCond .eq 7, [42, 1, 1, 1, 1, 1], 0), (.iconst 1, [], 0), (.goto 4, [43, 1, 1, 1, 1, 1], 0)]),
  (42, [(.iconst 0, [], 0), (.nop, [43, 1, 1, 1, 1, 1], 0)]),
  (43, [(.istore 5, [], 0), (.iload_n 3, [], 0), (.iload 5, [], 0), (.ifCond .eq 7, [55, 1, 1, 1, 0, 1], 0), (.iconst 0, [], 0), (.goto 10, [62, 1, 1, 1, 0, 1], 0)]),
  (55, [(.aload_n 0, [], 0), (.iload_n 2, [], 0), (.iload 4, [], 0), (.invokevirtual 134, [23, 3, 1, 6, 7], 0), (.nop, [62, 1, 1, 1, 0, 1], 0)]),
  (62, [(.iadd, [], 0), (.istore_n 3, [], 0), (.iinc 4 1, [], 0), (.goto (-62), [5, 1, 1, 1, 1, 1], 0)]),
  (70, [(.iload_n 3, [], 0), (.ireturn, [0], 0)])]
/-- MindReadersModel.change(II)I -/
def zc_68 : List (Nat × List zE) := [(0, [(.aload_n 0, [], 0), (.iload_n 1, [], 0), (.invokevirtual 138, [9, 2, 1, 2, 7], 0), (.ifCond .eq 20, [25], 0), (.aload_n 0, [], 0), (.iload_n 2, [], 0), (.invokevirtual 138, [9, 2, 1, 2, 7], 0), (.ifCond .eq 12, [25], 0), (.aload_n 0, [], 0), (.iload_n 1, [], 0), (.iload_n 2, [], 0), (.invokevirtual 256, [67, 3, 1, 6, 7], 0), (.goto 5, [27], 0)]),
  (25, [(.bipush (-101), [], 0), (.nop, [27], 0)]),
  (27, [(.ireturn, [0], 0)])]
/-- MindReadersModel.cheapest(I)I -/
def zc_69 : List (Nat × List zE) := [(0, [(.aload_n 0, [], 0), (.iload_n 1, [], 0), (.invokevirtual 138, [9, 2, 1, 2, 7], 0), (.ifCond .ne 6, [11, 1, 1], 0), (.bipush (-101), [], 0), (.ireturn, [0], 0)]),
  (11, [(.iconst (-1), [], 0), (.istore_n 2, [], 0), (.iconst 0, [], 0), (.istore_n 3, [], 0), (.iconst 0, [], 0), (.istore 4, [], 0), (.nop, [18, 1, 1, 1, 1, 1], 0)]),
  (18, [(.iload 4, [], 0), (.aload_n 0, [], 0), (.getfield 87, [7, 5, 0], 0), (.if_icmp .ge 66, [90, 0, 0, 1], 0), (.aload_n 0, [], 0), (.iload_n 1, [], 0), (.iload 4, [], 0), (.invokevirtual 256, [67, 3, 1, 6, 7], 0), (.istore 5, [], 0), (.iload 4, [], 0), (.iload_n 1, [], 0), (.if_icmp .eq 18, [57, 1, 1, 1, 1, 1, 1], 0), (.iload_n 2, [], 0), (.iconst (-1), [], 0), (.if_icmp .eq 9, [53, 1, 1, 1, 1, 1, 1], 0), (.iload 5, [], 0), (.iload_n 3, [], 0), (.if_icmp .ge 7, [57, 1, 1, 1, 1, 1, 1], 0), (.nop, [53, 1, 1, 1, 1, 1, 1], 0)]),
  (53, [(.iconst 1, [], 0), (.goto 4, [58, 1, 1, 1, 1, 1, 1], 0)]),
  (57, [(.iconst 0, [], 0), (.nop, [58, 1, 1, 1, 1, 1, 1], 0)]),
  (58, [(.istore 6, [], 0), (.iload 6, [], 0), (.ifCond .eq 8, [70, 1, 1, 1, 1, 1, 1, 1], 0), (.iload 4, [], 0), (.goto 4, [71, 1, 1, 0, 1, 1, 1, 1], 0)]),
  (70, [(.iload_n 2, [], 0), (.nop, [71, 1, 1, 0, 1, 1, 1, 1], 0)]),
  (71, [(.istore_n 2, [], 0), (.iload 6, [], 0), (.ifCond .eq 8, [82, 1, 1, 1, 1, 1], 0), (.iload 5, [], 0), (.goto 4, [83, 1, 1, 1, 0, 1], 0)]),
  (82, [(.iload_n 3, [], 0), (.nop, [83, 1, 1, 1, 0, 1], 0)]),
  (83, [(.istore_n 3, [], 0), (.iinc 4 1, [], 0), (.goto (-69), [18, 1, 1, 1, 1, 1], 0)]),
  (90, [(.iload_n 2, [], 0), (.ireturn, [0], 0)])]
/-- MindReadersModel.luck(IIII)J -/
def zc_70 : List (Nat × List zE) := [(0, [(.iload_n 1, [], 0), (.i2l, [], 0), (.lconst 1, [], 0), (.ldc2_w 259, [], 12), (.invokestatic 75, [2, 3, 1, 6], 0), (.ifCond .eq 36, [45], 0), (.iload_n 2, [], 0), (.i2l, [], 0), (.ldc2_w 168, [], 2), (.ldc2_w 95, [], 9), (.invokestatic 75, [2, 3, 1, 6], 0), (.ifCond .eq 22, [45], 0), (.iload_n 3, [], 0), (.i2l, [], 0), (.lconst 0, [], 0), (.iload_n 1, [], 0), (.i2l, [], 0), (.invokestatic 75, [2, 3, 1, 6], 0), (.ifCond .eq 11, [45], 0), (.iload 4, [], 0), (.invokestatic 193, [43, 1, 1, 1], 0), (.ifCond .ne 7, [49, 1, 1, 1, 1, 1], 0), (.nop, [45], 0)]),
  (45, [(.ldc2_w 235, [], -102), (.lreturn, [], 0)]),
  (49, [(.iconst 0, [], 0), (.istore 5, [], 0), (.nop, [52, 1, 1, 1, 1, 1, 1], 0)]),
  (52, [(.iload 5, [], 0), (.bipush 13, [], 0), (.if_icmp .ge 26, [82, 1, 1, 1, 1, 1], 0), (.aload_n 0, [], 0), (.getfield 43, [7, 20, 2], 0), (.iload 5, [], 0), (.iload 5, [], 0), (.ifCond .ne 7, [74, 1, 1, 1, 1, 1, 1], 0), (.lconst 1, [], 0), (.goto 4, [75, 1, 1, 1, 1, 1, 1], 0)]),
  (74, [(.lconst 0, [], 0), (.nop, [75, 1, 1, 1, 1, 1, 1], 0)]),
  (75, [(.lastore, [], 0), (.iinc 5 1, [], 0), (.goto (-27), [52, 1, 1, 1, 1, 1, 1], 0)]),
  (82, [(.lconst 1, [], 0), (.lstore 5, [], 0), (.iconst 0, [], 0), (.istore 7, [], 0), (.nop, [88, 1, 1, 1, 1, 1, 1, 0, 1], 0)]),
  (88, [(.iload 7, [], 0), (.iload_n 1, [], 0), (.if_icmp .ge 68, [159, 1, 1, 0, 1, 1, 1], 0), (.lload 5, [], 0), (.iload_n 2, [], 0), (.i2l, [], 0), (.lmul, [], 0), (.lstore 5, [], 0), (.iload_n 1, [], 0), (.istore 8, [], 0), (.nop, [104, 1, 1, 1, 1, 1, 1, 0, 1, 1], 0)]),
  (104, [(.iload 8, [], 0), (.ifCond .lt 47, [153, 1, 1, 1, 1, 1, 1, 0, 1], 0), (.aload_n 0, [], 0), (.getfield 43, [7, 20, 2], 0), (.iload 8, [], 0), (.aload_n 0, [], 0), (.getfield 43, [7, 20, 2], 0), (.iload 8, [], 0), (.laload, [], 0), (.iload_n 2, [], 0), (.iconst 1, [], 0), (.isub, [], 0), (.i2l, [], 0), (.lmul, [], 0), (.iload 8, [], 0), (.ifCond .le 15, [144, 1, 1, 1, 1, 1, 1, 0, 1, 1], 0), (.aload_n 0, [], 0), (.getfield 43, [7, 20, 2], 0), (.iload 8, [], 0), (.iconst 1, [], 0), (.isub, [], 0), (.laload, [], 0), (.goto 4, [145, 1, 1, 1, 1, 1, 1, 0, 1, 1], 0)]),
  (144, [(.lconst 0, [], 0), (.nop, [145, 1, 1, 1, 1, 1, 1, 0, 1, 1], 0)]),
  (145, [(.ladd, [], 0), (.lastore, [], 0), (.iinc 8 (-1), [], 0), (.goto (-46), [104, 1, 1, 1, 1, 1, 1, 0, 1, 1], 0)]),
  (153, [(.iinc 7 1, [], 0), (.goto (-68), [88, 1, 1, 1, 1, 1, 1, 0, 1], 0)]),
  (159, [(.lconst 0, [], 0), (.lstore 7, [], 0), (.iload_n 3, [], 0), (.istore 9, [], 0), (.nop, [165, 1, 1, 0, 0, 1, 1, 0, 1, 0, 1], 0)]),
  (165, [(.iload 9, [], 0), (.iload_n 1, [], 0), (.if_icmp .gt 21, [189, 0, 0, 0, 0, 1, 1, 0, 1], 0), (.lload 7, [], 0), (.aload_n 0, [], 0), (.getfield 43, [7, 20, 2], 0), (.iload 9, [], 0), (.laload, [], 0), (.ladd, [], 0), (.lstore 7, [], 0), (.iinc 9 1, [], 0), (.goto (-21), [165, 1, 1, 0, 0, 1, 1, 0, 1, 0, 1], 0)]),
  (189, [(.lload 7, [], 0), (.lload 5, [], 0), (.iload 4, [], 0), (.invokestatic 202, [42, 3, 2, 7], 0), (.lreturn, [], 0)])]
/-- MindReadersModel.leftOf(II)I -/
def zc_71 : List (Nat × List zE) := [(0, [(.aload_n 0, [], 0), (.iload_n 1, [], 0), (.iload_n 2, [], 0), (.invokevirtual 153, [22, 3, 0, 5, 7], 0), (.iconst 0, [], 0), (.istore_n 3, [], 0), (.iconst 0, [], 0), (.istore 4, [], 0), (.nop, [11, 1, 1, 0, 1, 1], 0)]),
  (11, [(.iload 4, [], 0), (.aload_n 0, [], 0), (.getfield 16, [7, 6, 2], 0), (.iload_n 1, [], 0), (.iaload, [], 0), (.if_icmp .ge 64, [83, 0, 0, 0, 1], 0), (.iconst 1, [], 0), (.istore 5, [], 0), (.iconst 0, [], 0), (.istore 6, [], 0), (.nop, [28, 1, 1, 0, 1, 1, 1, 1], 0)]),
  (28, [(.iload 6, [], 0), (.iload 4, [], 0), (.if_icmp .ge 32, [64, 1, 1, 0, 1, 1, 1], 0), (.iload 5, [], 0), (.ifCond .eq 18, [55, 1, 1, 0, 1, 1, 0, 1], 0), (.aload_n 0, [], 0), (.iload 4, [], 0), (.iload 6, [], 0), (.invokevirtual 164, [27, 3, 1, 3, 7], 0), (.ifCond .ne 7, [55, 1, 1, 0, 1, 1, 0, 1], 0), (.iconst 1, [], 0), (.goto 4, [56, 1, 1, 0, 1, 1, 0, 1], 0)]),
  (55, [(.iconst 0, [], 0), (.nop, [56, 1, 1, 0, 1, 1, 0, 1], 0)]),
  (56, [(.istore 5, [], 0), (.iinc 6 1, [], 0), (.goto (-33), [28, 1, 1, 0, 1, 1, 1, 1], 0)]),
  (64, [(.iload_n 3, [], 0), (.iload 5, [], 0), (.ifCond .eq 7, [74, 1, 1, 0, 0, 1], 0), (.iconst 1, [], 0), (.goto 4, [75, 1, 1, 0, 0, 1], 0)]),
  (74, [(.iconst 0, [], 0), (.nop, [75, 1, 1, 0, 0, 1], 0)]),
  (75, [(.iadd, [], 0), (.istore_n 3, [], 0), (.iinc 4 1, [], 0), (.goto (-69), [11, 1, 1, 0, 1, 1], 0)]),
  (83, [(.iload_n 3, [], 0), (.ireturn, [0], 0)])]
/-- MindReadersModel.left(II)I -/
def zc_72 : List (Nat × List zE) := [(0, [(.aload_n 0, [], 0), (.iload_n 1, [], 0), (.invokevirtual 138, [9, 2, 1, 2, 7], 0), (.ifCond .ne 6, [11, 1, 1, 1], 0), (.bipush (-101), [], 0), (.ireturn, [0], 0)]),
  (11, [(.iload_n 2, [], 0), (.i2l, [], 0), (.lconst 0, [], 0), (.ldc2_w 60, [], 255), (.invokestatic 75, [2, 3, 1, 6], 0), (.ifCond .eq 12, [32], 0), (.aload_n 0, [], 0), (.iload_n 1, [], 0), (.iload_n 2, [], 0), (.invokevirtual 261, [71, 3, 1, 7, 7], 0), (.goto 5, [34], 0)]),
  (32, [(.bipush (-102), [], 0), (.nop, [34], 0)]),
  (34, [(.ireturn, [0], 0)])]
/-- MindReadersModel.stopOf(I)I -/
def zc_73 : List (Nat × List zE) := [(0, [(.sipush 255, [], 0), (.istore_n 2, [], 0), (.bipush 8, [], 0), (.istore_n 3, [], 0), (.iconst 0, [], 0), (.istore 4, [], 0), (.nop, [10, 1, 1, 1, 1, 1], 0)]),
  (10, [(.iload 4, [], 0), (.sipush 256, [], 0), (.if_icmp .ge 63, [78, 0, 0, 1], 0), (.iconst 0, [], 0), (.istore 5, [], 0), (.iconst 0, [], 0), (.istore 6, [], 0), (.nop, [24, 1, 1, 1, 1, 1, 1, 1], 0)]),
  (24, [(.iload 6, [], 0), (.bipush 8, [], 0), (.if_icmp .ge 21, [49, 1, 1, 1, 1, 1, 1], 0), (.iload 5, [], 0), (.iload 4, [], 0), (.iload 6, [], 0), (.ishr, [], 0), (.iconst 1, [], 0), (.iand, [], 0), (.iadd, [], 0), (.istore 5, [], 0), (.iinc 6 1, [], 0), (.goto (-22), [24, 1, 1, 1, 1, 1, 1, 1], 0)]),
  (49, [(.iload 5, [], 0), (.iload_n 3, [], 0), (.if_icmp .ge 20, [72, 1, 1, 1, 1, 1], 0), (.aload_n 0, [], 0), (.iload_n 1, [], 0), (.iload 4, [], 0), (.invokevirtual 261, [71, 3, 1, 7, 7], 0), (.iconst 2, [], 0), (.if_icmp .ge 9, [72, 1, 1, 1, 1, 1], 0), (.iload 4, [], 0), (.istore_n 2, [], 0), (.iload 5, [], 0), (.istore_n 3, [], 0), (.nop, [72, 1, 1, 1, 1, 1], 0)]),
  (72, [(.iinc 4 1, [], 0), (.goto (-65), [10, 1, 1, 1, 1, 1], 0)]),
  (78, [(.iload_n 2, [], 0), (.ireturn, [0], 0)])]
/-- MindReadersModel.stop(I)I -/
def zc_74 : List (Nat × List zE) := [(0, [(.aload_n 0, [], 0), (.iload_n 1, [], 0), (.invokevirtual 138, [9, 2, 1, 2, 7], 0), (.ifCond .eq 11, [16], 0), (.aload_n 0, [], 0), (.iload_n 1, [], 0), (.invokevirtual 264, [73, 2, 1, 7, 7], 0), (.goto 5, [18], 0)]),
  (16, [(.bipush (-101), [], 0), (.nop, [18], 0)]),
  (18, [(.ireturn, [0], 0)])]
/-- MindReadersModel.image()I -/
def zc_75 : List (Nat × List zE) := [(0, [(.iconst 0, [], 0), (.istore_n 1, [], 0), (.nop, [2, 1, 1], 0)]),
  (2, [(.iload_n 1, [], 0), (.bipush 8, [], 0), (.if_icmp .ge 21, [26, 1], 0), (.aload_n 0, [], 0), (.getfield 50, [7, 24, 2], 0), (.iload_n 1, [], 0), (.aload_n 0, [], 0), (.getfield 25, [7, 11, 2], 0), (.iload_n 1, [], 0), (.iaload, [], 0), (.iastore, [], 0), (.iinc 1 1, [], 0), (.goto (-21), [2, 1, 1], 0)]),
  (26, [(.iconst 0, [], 0), (.istore_n 1, [], 0), (.nop, [28, 1, 1], 0)]),
  (28, [(.iload_n 1, [], 0), (.bipush 100, [], 0), (.if_icmp .ge 21, [52, 1], 0), (.aload_n 0, [], 0), (.getfield 53, [7, 25, 2], 0), (.iload_n 1, [], 0), (.aload_n 0, [], 0), (.getfield 40, [7, 19, 2], 0), (.iload_n 1, [], 0), (.iaload, [], 0), (.iastore, [], 0), (.iinc 1 1, [], 0), (.goto (-21), [28, 1, 1], 0)]),
  (52, [(.aload_n 0, [], 0), (.aload_n 0, [], 0), (.getfield 242, [7, 18, 0], 0), (.putfield 267, [7, 23, 0], 0), (.aload_n 0, [], 0), (.aload_n 0, [], 0), (.getfield 104, [7, 10, 0], 0), (.putfield 56, [7, 22, 0], 0), (.aload_n 0, [], 0), (.getfield 104, [7, 10, 0], 0), (.ireturn, [0], 0)])]
/-- MindReadersModel.restore()I -/
def zc_76 : List (Nat × List zE) := [(0, [(.aload_n 0, [], 0), (.getfield 56, [7, 22, 0], 0), (.iconst (-1), [], 0), (.if_icmp .ne 6, [11, 1], 0), (.bipush (-103), [], 0), (.ireturn, [0], 0)]),
  (11, [(.iconst 0, [], 0), (.istore_n 1, [], 0), (.nop, [13, 1, 1], 0)]),
  (13, [(.iload_n 1, [], 0), (.aload_n 0, [], 0), (.getfield 56, [7, 22, 0], 0), (.if_icmp .ge 21, [39, 1], 0), (.aload_n 0, [], 0), (.getfield 25, [7, 11, 2], 0), (.iload_n 1, [], 0), (.aload_n 0, [], 0), (.getfield 50, [7, 24, 2], 0), (.iload_n 1, [], 0), (.iaload, [], 0), (.iastore, [], 0), (.iinc 1 1, [], 0), (.goto (-23), [13, 1, 1], 0)]),
  (39, [(.iconst 0, [], 0), (.istore_n 1, [], 0), (.nop, [41, 1, 1], 0)]),
  (41, [(.iload_n 1, [], 0), (.bipush 100, [], 0), (.if_icmp .ge 21, [65, 1], 0), (.aload_n 0, [], 0), (.getfield 40, [7, 19, 2], 0), (.iload_n 1, [], 0), (.aload_n 0, [], 0), (.getfield 53, [7, 25, 2], 0), (.iload_n 1, [], 0), (.iaload, [], 0), (.iastore, [], 0), (.iinc 1 1, [], 0), (.goto (-21), [41, 1, 1], 0)]),
  (65, [(.aload_n 0, [], 0), (.aload_n 0, [], 0), (.getfield 267, [7, 23, 0], 0), (.putfield 242, [7, 18, 0], 0), (.aload_n 0, [], 0), (.getfield 104, [7, 10, 0], 0), (.ireturn, [0], 0)])]
/-- MindReadersModel.countOf(I)I -/
def zc_77 : List (Nat × List zE) := [(0, [(.iload_n 1, [], 0), (.tableswitch 73 0 5 #[39, 44, 49, 54, 59, 64], [1, 74, 1, 40, 45, 50, 55, 60, 65], 39)]),
  (40, [(.aload_n 0, [], 0), (.getfield 92, [7, 8, 0], 0), (.ireturn, [0], 0)]),
  (45, [(.aload_n 0, [], 0), (.getfield 104, [7, 10, 0], 0), (.ireturn, [0], 0)]),
  (50, [(.aload_n 0, [], 0), (.getfield 87, [7, 5, 0], 0), (.ireturn, [0], 0)]),
  (55, [(.aload_n 0, [], 0), (.getfield 242, [7, 18, 0], 0), (.ireturn, [0], 0)]),
  (60, [(.aload_n 0, [], 0), (.getfield 62, [7, 1, 0], 0), (.ireturn, [0], 0)]),
  (65, [(.aload_n 0, [], 0), (.aload_n 0, [], 0), (.getfield 104, [7, 10, 0], 0), (.invokevirtual 199, [44, 2, 1, 4, 7], 0), (.ireturn, [0], 0)]),
  (74, [(.bipush (-102), [], 0), (.ireturn, [0], 0)])]
/-- MindReadersModel.count(I)I -/
def zc_78 : List (Nat × List zE) := [(0, [(.aload_n 0, [], 0), (.iload_n 1, [], 0), (.invokevirtual 270, [77, 2, 1, 2, 7], 0), (.ireturn, [0], 0)])]
/-- MindReadersModel.say(J)V -/
def zc_79 : List (Nat × List zE) := [(0, [(.aload_n 0, [], 0), (.ldc2_w 273, [], 31), (.aload_n 0, [], 0), (.getfield 275, [7, 26, 1], 0), (.lmul, [], 0), (.lload_n 1, [], 0), (.ladd, [], 0), (.putfield 275, [7, 26, 1], 0), (.return_, [], 0)])]
/-- MindReadersModel.sayCode(I)V -/
def zc_80 : List (Nat × List zE) := [(0, [(.iconst 0, [], 0), (.istore_n 2, [], 0), (.nop, [2, 1, 1, 1], 0)]),
  (2, [(.iload_n 2, [], 0), (.aload_n 0, [], 0), (.getfield 16, [7, 6, 2], 0), (.iload_n 1, [], 0), (.iaload, [], 0), (.if_icmp .ge 61, [70, 1, 1], 0), (.iconst 0, [], 0), (.istore_n 3, [], 0), (.nop, [14, 1, 1, 1, 1], 0)]),
  (14, [(.iload_n 3, [], 0), (.bipush 6, [], 0), (.if_icmp .ge 21, [38, 1, 1, 1], 0), (.aload_n 0, [], 0), (.aload_n 0, [], 0), (.iload_n 1, [], 0), (.iload_n 2, [], 0), (.iload_n 3, [], 0), (.invokevirtual 141, [24, 4, 1, 5, 7], 0), (.i2l, [], 0), (.invokevirtual 279, [79, 2, 0, 3, 7], 0), (.iinc 3 1, [], 0), (.goto (-21), [14, 1, 1, 1, 1], 0)]),
  (38, [(.aload_n 0, [], 0), (.aload_n 0, [], 0), (.iload_n 1, [], 0), (.iload_n 2, [], 0), (.bipush 10, [], 0), (.invokevirtual 141, [24, 4, 1, 5, 7], 0), (.i2l, [], 0), (.invokevirtual 279, [79, 2, 0, 3, 7], 0), (.aload_n 0, [], 0), (.aload_n 0, [], 0), (.iload_n 1, [], 0), (.iload_n 2, [], 0), (.bipush 30, [], 0), (.invokevirtual 141, [24, 4, 1, 5, 7], 0), (.i2l, [], 0), (.invokevirtual 279, [79, 2, 0, 3, 7], 0), (.iinc 2 1, [], 0), (.goto (-65), [2, 1, 1, 1], 0)]),
  (70, [(.aload_n 0, [], 0), (.aload_n 0, [], 0), (.iload_n 1, [], 0), (.invokevirtual 170, [32, 2, 1, 4, 7], 0), (.iconst (-1), [], 0), (.if_icmp .ne 7, [84, 1, 1], 0), (.lconst 1, [], 0), (.goto 4, [85, 1, 1], 0)]),
  (84, [(.lconst 0, [], 0), (.nop, [85, 1, 1], 0)]),
  (85, [(.invokevirtual 279, [79, 2, 0, 3, 7], 0), (.aload_n 0, [], 0), (.aload_n 0, [], 0), (.iload_n 1, [], 0), (.invokevirtual 186, [38, 2, 1, 10, 7], 0), (.i2l, [], 0), (.invokevirtual 279, [79, 2, 0, 3, 7], 0), (.aload_n 0, [], 0), (.aload_n 0, [], 0), (.iload_n 1, [], 0), (.invokevirtual 209, [46, 2, 1, 6, 7], 0), (.i2l, [], 0), (.invokevirtual 279, [79, 2, 0, 3, 7], 0), (.aload_n 0, [], 0), (.aload_n 0, [], 0), (.iload_n 1, [], 0), (.invokevirtual 230, [54, 2, 1, 7, 7], 0), (.i2l, [], 0), (.invokevirtual 279, [79, 2, 0, 3, 7], 0), (.aload_n 0, [], 0), (.aload_n 0, [], 0), (.iload_n 1, [], 0), (.invokevirtual 264, [73, 2, 1, 7, 7], 0), (.i2l, [], 0), (.invokevirtual 279, [79, 2, 0, 3, 7], 0), (.return_, [], 0)])]
/-- MindReadersModel.digest()J -/
def zc_81 : List (Nat × List zE) := [(0, [(.aload_n 0, [], 0), (.ldc2_w 283, [], 479), (.putfield 275, [7, 26, 1], 0), (.iconst 0, [], 0), (.istore_n 1, [], 0), (.nop, [9, 1, 1], 0)]),
  (9, [(.iload_n 1, [], 0), (.iconst 4, [], 0), (.aload_n 0, [], 0), (.getfield 92, [7, 8, 0], 0), (.imul, [], 0), (.if_icmp .ge 20, [36, 1], 0), (.aload_n 0, [], 0), (.aload_n 0, [], 0), (.getfield 22, [7, 9, 2], 0), (.iload_n 1, [], 0), (.iaload, [], 0), (.i2l, [], 0), (.invokevirtual 279, [79, 2, 0, 3, 7], 0), (.iinc 1 1, [], 0), (.goto (-24), [9, 1, 1], 0)]),
  (36, [(.iconst 0, [], 0), (.istore_n 1, [], 0), (.nop, [38, 1, 1], 0)]),
  (38, [(.iload_n 1, [], 0), (.aload_n 0, [], 0), (.getfield 104, [7, 10, 0], 0), (.if_icmp .ge 20, [63, 1], 0), (.aload_n 0, [], 0), (.aload_n 0, [], 0), (.getfield 25, [7, 11, 2], 0), (.iload_n 1, [], 0), (.iaload, [], 0), (.i2l, [], 0), (.invokevirtual 279, [79, 2, 0, 3, 7], 0), (.iinc 1 1, [], 0), (.goto (-22), [38, 1, 1], 0)]),
  (63, [(.iconst 0, [], 0), (.istore_n 1, [], 0), (.nop, [65, 1, 1], 0)]),
  (65, [(.iload_n 1, [], 0), (.aload_n 0, [], 0), (.getfield 87, [7, 5, 0], 0), (.if_icmp .ge 14, [84, 1], 0), (.aload_n 0, [], 0), (.iload_n 1, [], 0), (.invokevirtual 285, [80, 2, 0, 4, 7], 0), (.iinc 1 1, [], 0), (.goto (-16), [65, 1, 1], 0)]),
  (84, [(.iconst 0, [], 0), (.istore_n 1, [], 0), (.nop, [86, 1, 1], 0)]),
  (86, [(.iload_n 1, [], 0), (.aload_n 0, [], 0), (.getfield 242, [7, 18, 0], 0), (.if_icmp .ge 50, [141, 1], 0), (.iconst 0, [], 0), (.istore_n 2, [], 0), (.nop, [96, 1, 1, 1], 0)]),
  (96, [(.iload_n 2, [], 0), (.iconst 2, [], 0), (.aload_n 0, [], 0), (.getfield 40, [7, 19, 2], 0), (.bipush 10, [], 0), (.iload_n 1, [], 0), (.imul, [], 0), (.iconst 1, [], 0), (.iadd, [], 0), (.iaload, [], 0), (.iadd, [], 0), (.if_icmp .ge 25, [135, 1, 1], 0), (.aload_n 0, [], 0), (.aload_n 0, [], 0), (.getfield 40, [7, 19, 2], 0), (.bipush 10, [], 0), (.iload_n 1, [], 0), (.imul, [], 0), (.iload_n 2, [], 0), (.iadd, [], 0), (.iaload, [], 0), (.i2l, [], 0), (.invokevirtual 279, [79, 2, 0, 3, 7], 0), (.iinc 2 1, [], 0), (.goto (-36), [96, 1, 1, 1], 0)]),
  (135, [(.iinc 1 1, [], 0), (.goto (-52), [86, 1, 1], 0)]),
  (141, [(.aload_n 0, [], 0), (.aload_n 0, [], 0), (.invokevirtual 248, [62, 1, 1, 5, 7], 0), (.i2l, [], 0), (.invokevirtual 279, [79, 2, 0, 3, 7], 0), (.iconst 0, [], 0), (.istore_n 1, [], 0), (.nop, [152, 1, 1], 0)]),
  (152, [(.iload_n 1, [], 0), (.aload_n 0, [], 0), (.getfield 62, [7, 1, 0], 0), (.if_icmp .ge 20, [177, 1], 0), (.aload_n 0, [], 0), (.aload_n 0, [], 0), (.getfield 7, [7, 0, 2], 0), (.iload_n 1, [], 0), (.iaload, [], 0), (.i2l, [], 0), (.invokevirtual 279, [79, 2, 0, 3, 7], 0), (.iinc 1 1, [], 0), (.goto (-22), [152, 1, 1], 0)]),
  (177, [(.iconst 0, [], 0), (.istore_n 1, [], 0), (.nop, [179, 1, 1], 0)]),
  (179, [(.iload_n 1, [], 0), (.bipush 6, [], 0), (.if_icmp .ge 19, [201, 1], 0), (.aload_n 0, [], 0), (.aload_n 0, [], 0), (.iload_n 1, [], 0), (.invokevirtual 270, [77, 2, 1, 2, 7], 0), (.i2l, [], 0), (.invokevirtual 279, [79, 2, 0, 3, 7], 0), (.iinc 1 1, [], 0), (.goto (-19), [179, 1, 1], 0)]),
  (201, [(.aload_n 0, [], 0), (.getfield 275, [7, 26, 1], 0), (.lreturn, [], 0)])]
/-- MindReaders$Code.<init>()V -/
def zc_82 : List (Nat × List zE) := [(0, [(.aload_n 0, [], 0), (.invokespecial 3, [], 0), (.aload_n 0, [], 0), (.new 9, [4, 2, 2], 0), (.dup, [], 0), (.bipush 8, [], 0), (.iconst 5, [], 0), (.invokespecial 11, [120, 3, 0, 4, 4], 0), (.putfield 14, [0, 0, 2], 0), (.aload_n 0, [], 0), (.new 9, [4, 2, 2], 0), (.dup, [], 0), (.bipush 8, [], 0), (.bipush 10, [], 0), (.invokespecial 11, [120, 3, 0, 4, 4], 0), (.putfield 20, [0, 1, 2], 0), (.return_, [], 0)])]
/-- MindReaders$Code.size()I -/
def zc_83 : List (Nat × List zE) := [(0, [(.aload_n 0, [], 0), (.getfield 23, [0, 2, 0], 0), (.ireturn, [0], 0)])]
/-- MindReaders$Code.spoken(I)LMindReaders$Row; -/
def zc_84 : List (Nat × List zE) := [(0, [(.aload_n 0, [], 0), (.getfield 14, [0, 0, 2], 0), (.iload_n 1, [], 0), (.invokevirtual 27, [121, 2, 3, 3, 4], 0), (.areturn, [], 0)])]
/-- MindReaders$Code.plain(I)LMindReaders$Row; -/
def zc_85 : List (Nat × List zE) := [(0, [(.aload_n 0, [], 0), (.getfield 20, [0, 1, 2], 0), (.iload_n 1, [], 0), (.invokevirtual 27, [121, 2, 3, 3, 4], 0), (.areturn, [], 0)])]
/-- MindReaders$Code.readFrom(LMindReaders$Row;)V -/
def zc_86 : List (Nat × List zE) := [(0, [(.aload_n 0, [], 0), (.iconst 1, [], 0), (.putfield 23, [0, 2, 0], 0), (.iconst 0, [], 0), (.istore_n 2, [], 0), (.nop, [7, 1, 1, 1], 0)]),
  (7, [(.iload_n 2, [], 0), (.aload_n 1, [], 0), (.invokevirtual 31, [106, 1, 1, 1, 3], 0), (.if_icmp .ge 50, [62], 0), (.aload_n 1, [], 0), (.iload_n 2, [], 0), (.invokevirtual 36, [107, 2, 1, 2, 3], 0), (.invokestatic 40, [175, 1, 1, 1], 0), (.istore_n 3, [], 0), (.iload_n 3, [], 0), (.iconst (-1), [], 0), (.if_icmp .ne 16, [42, 1, 1, 1, 1], 0), (.aload_n 0, [], 0), (.dup, [], 0), (.getfield 23, [0, 2, 0], 0), (.iconst 1, [], 0), (.iadd, [], 0), (.putfield 23, [0, 2, 0], 0), (.goto 17, [56, 1, 1, 1], 0)]),
  (42, [(.aload_n 0, [], 0), (.aload_n 0, [], 0), (.getfield 23, [0, 2, 0], 0), (.iconst 1, [], 0), (.isub, [], 0), (.invokevirtual 43, [84, 2, 3, 2, 0], 0), (.iload_n 3, [], 0), (.invokevirtual 45, [109, 2, 0, 2, 3], 0), (.nop, [56, 1, 1, 1], 0)]),
  (56, [(.iinc 2 1, [], 0), (.goto (-52), [7, 1, 1, 1], 0)]),
  (62, [(.return_, [], 0)])]
/-- MindReaders$Code.makePlain(LMindReaders$Signals;)V -/
def zc_87 : List (Nat × List zE) := [(0, [(.iconst 0, [], 0), (.istore_n 2, [], 0), (.nop, [2, 1, 1, 1], 0)]),
  (2, [(.iload_n 2, [], 0), (.aload_n 0, [], 0), (.getfield 23, [0, 2, 0], 0), (.if_icmp .ge 24, [31], 0), (.aload_n 1, [], 0), (.aload_n 0, [], 0), (.iload_n 2, [], 0), (.invokevirtual 43, [84, 2, 3, 2, 0], 0), (.iconst 0, [], 0), (.aload_n 0, [], 0), (.iload_n 2, [], 0), (.invokevirtual 49, [85, 2, 3, 2, 0], 0), (.invokevirtual 51, [133, 4, 0, 7, 5], 0), (.iinc 2 1, [], 0), (.goto (-26), [2, 1, 1, 1], 0)]),
  (31, [(.return_, [], 0)])]
/-- MindReaders$Code.meaningOf(LMindReaders$Row;)I -/
def zc_88 : List (Nat × List zE) := [(0, [(.iconst 0, [], 0), (.istore_n 2, [], 0), (.nop, [2, 1, 1, 1], 0)]),
  (2, [(.iload_n 2, [], 0), (.aload_n 0, [], 0), (.getfield 23, [0, 2, 0], 0), (.if_icmp .ge 23, [30], 0), (.aload_n 0, [], 0), (.iload_n 2, [], 0), (.invokevirtual 49, [85, 2, 3, 2, 0], 0), (.aload_n 1, [], 0), (.invokevirtual 57, [113, 2, 1, 2, 3], 0), (.ifCond .eq 5, [24, 1, 1, 1], 0), (.iload_n 2, [], 0), (.ireturn, [0], 0)]),
  (24, [(.iinc 2 1, [], 0), (.goto (-25), [2, 1, 1, 1], 0)]),
  (30, [(.iconst (-1), [], 0), (.ireturn, [0], 0)])]
/-- MindReaders$Code.firstAlike()I -/
def zc_89 : List (Nat × List zE) := [(0, [(.iconst 0, [], 0), (.istore_n 1, [], 0), (.nop, [2, 1, 1], 0)]),
  (2, [(.iload_n 1, [], 0), (.aload_n 0, [], 0), (.getfield 23, [0, 2, 0], 0), (.if_icmp .ge 50, [57], 0), (.iload_n 1, [], 0), (.iconst 1, [], 0), (.iadd, [], 0), (.istore_n 2, [], 0), (.nop, [14, 1, 1, 1], 0)]),
  (14, [(.iload_n 2, [], 0), (.aload_n 0, [], 0), (.getfield 23, [0, 2, 0], 0), (.if_icmp .ge 32, [51, 1, 1], 0), (.aload_n 0, [], 0), (.iload_n 1, [], 0), (.invokevirtual 49, [85, 2, 3, 2, 0], 0), (.aload_n 0, [], 0), (.iload_n 2, [], 0), (.invokevirtual 49, [85, 2, 3, 2, 0], 0), (.invokevirtual 57, [113, 2, 1, 2, 3], 0), (.ifCond .eq 10, [45, 1, 1, 1], 0), (.iload_n 1, [], 0), (.bipush 8, [], 0), (.imul, [], 0), (.iload_n 2, [], 0), (.iadd, [], 0), (.ireturn, [0], 0)]),
  (45, [(.iinc 2 1, [], 0), (.goto (-34), [14, 1, 1, 1], 0)]),
  (51, [(.iinc 1 1, [], 0), (.goto (-52), [2, 1, 1], 0)]),
  (57, [(.iconst (-1), [], 0), (.ireturn, [0], 0)])]
/-- MindReaders$Code.firstStart()I -/
def zc_90 : List (Nat × List zE) := [(0, [(.iconst 0, [], 0), (.istore_n 1, [], 0), (.nop, [2, 1, 1], 0)]),
  (2, [(.iload_n 1, [], 0), (.aload_n 0, [], 0), (.getfield 23, [0, 2, 0], 0), (.if_icmp .ge 67, [74], 0), (.iconst 0, [], 0), (.istore_n 2, [], 0), (.nop, [12, 1, 1, 1], 0)]),
  (12, [(.iload_n 2, [], 0), (.aload_n 0, [], 0), (.getfield 23, [0, 2, 0], 0), (.if_icmp .ge 51, [68, 1, 1], 0), (.aload_n 0, [], 0), (.iload_n 1, [], 0), (.invokevirtual 49, [85, 2, 3, 2, 0], 0), (.invokevirtual 31, [106, 1, 1, 1, 3], 0), (.aload_n 0, [], 0), (.iload_n 2, [], 0), (.invokevirtual 49, [85, 2, 3, 2, 0], 0), (.invokevirtual 31, [106, 1, 1, 1, 3], 0), (.if_icmp .ge 26, [62, 1, 1, 1], 0), (.aload_n 0, [], 0), (.iload_n 1, [], 0), (.invokevirtual 49, [85, 2, 3, 2, 0], 0), (.aload_n 0, [], 0), (.iload_n 2, [], 0), (.invokevirtual 49, [85, 2, 3, 2, 0], 0), (.invokevirtual 61, [114, 2, 1, 3, 3], 0), (.ifCond .eq 10, [62, 1, 1, 1], 0), (.iload_n 1, [], 0), (.bipush 8, [], 0), (.imul, [], 0), (.iload_n 2, [], 0), (.iadd, [], 0), (.ireturn, [0], 0)]),
  (62, [(.iinc 2 1, [], 0), (.goto (-53), [12, 1, 1, 1], 0)]),
  (68, [(.iinc 1 1, [], 0), (.goto (-69), [2, 1, 1], 0)]),
  (74, [(.iconst (-1), [], 0), (.ireturn, [0], 0)])]
/-- MindReaders$Code.leastApart()I -/
def zc_91 : List (Nat × List zE) := [(0, [(.iconst (-1), [], 0), (.istore_n 1, [], 0), (.iconst 0, [], 0), (.istore_n 2, [], 0), (.nop, [4, 1, 1, 1], 0)]),
  (4, [(.iload_n 2, [], 0), (.aload_n 0, [], 0), (.getfield 23, [0, 2, 0], 0), (.if_icmp .ge 72, [81, 0, 1], 0), (.aload_n 0, [], 0), (.iload_n 2, [], 0), (.invokevirtual 49, [85, 2, 3, 2, 0], 0), (.invokevirtual 31, [106, 1, 1, 1, 3], 0), (.aload_n 0, [], 0), (.iconst 0, [], 0), (.invokevirtual 49, [85, 2, 3, 2, 0], 0), (.invokevirtual 31, [106, 1, 1, 1, 3], 0), (.if_icmp .eq 5, [33, 1, 1, 1], 0), (.iconst (-1), [], 0), (.ireturn, [0], 0)]),
  (33, [(.iconst 0, [], 0), (.istore_n 3, [], 0), (.nop, [35, 1, 1, 1, 1], 0)]),
  (35, [(.iload_n 3, [], 0), (.iload_n 2, [], 0), (.if_icmp .ge 38, [75, 1, 1, 1], 0), (.aload_n 0, [], 0), (.iload_n 2, [], 0), (.invokevirtual 49, [85, 2, 3, 2, 0], 0), (.aload_n 0, [], 0), (.iload_n 3, [], 0), (.invokevirtual 49, [85, 2, 3, 2, 0], 0), (.invokevirtual 64, [115, 2, 1, 4, 3], 0), (.istore 4, [], 0), (.iload_n 1, [], 0), (.iconst (-1), [], 0), (.if_icmp .eq 9, [66, 1, 0, 1, 1, 1], 0), (.iload 4, [], 0), (.iload_n 1, [], 0), (.if_icmp .ge 6, [69, 1, 1, 1, 1], 0), (.nop, [66, 1, 0, 1, 1, 1], 0)]),
  (66, [(.iload 4, [], 0), (.istore_n 1, [], 0), (.nop, [69, 1, 1, 1, 1], 0)]),
  (69, [(.iinc 3 1, [], 0), (.goto (-37), [35, 1, 1, 1, 1], 0)]),
  (75, [(.iinc 2 1, [], 0), (.goto (-74), [4, 1, 1, 1], 0)]),
  (81, [(.iload_n 1, [], 0), (.ireturn, [0], 0)])]
/-- MindReaders$Code.nearestTo(LMindReaders$Row;)I -/
def zc_92 : List (Nat × List zE) := [(0, [(.iconst (-1), [], 0), (.istore_n 2, [], 0), (.iconst 0, [], 0), (.istore_n 3, [], 0), (.iconst 0, [], 0), (.istore 4, [], 0), (.nop, [7, 1, 1, 1, 1, 1], 0)]),
  (7, [(.iload 4, [], 0), (.aload_n 0, [], 0), (.getfield 23, [0, 2, 0], 0), (.if_icmp .ge 57, [70, 0, 0, 1], 0), (.aload_n 0, [], 0), (.iload 4, [], 0), (.invokevirtual 49, [85, 2, 3, 2, 0], 0), (.invokevirtual 31, [106, 1, 1, 1, 3], 0), (.aload_n 1, [], 0), (.invokevirtual 31, [106, 1, 1, 1, 3], 0), (.if_icmp .eq 6, [35, 1, 1, 1, 1, 1], 0), (.goto 32, [64, 1, 1, 1, 1, 1], 0)]),
  (35, [(.aload_n 0, [], 0), (.iload 4, [], 0), (.invokevirtual 49, [85, 2, 3, 2, 0], 0), (.aload_n 1, [], 0), (.invokevirtual 64, [115, 2, 1, 4, 3], 0), (.istore 5, [], 0), (.iload_n 2, [], 0), (.iconst (-1), [], 0), (.if_icmp .eq 9, [58, 1, 1, 0, 0, 1, 1], 0), (.iload 5, [], 0), (.iload_n 3, [], 0), (.if_icmp .ge 9, [64, 1, 1, 1, 1, 1], 0), (.nop, [58, 1, 1, 0, 0, 1, 1], 0)]),
  (58, [(.iload 4, [], 0), (.istore_n 2, [], 0), (.iload 5, [], 0), (.istore_n 3, [], 0), (.nop, [64, 1, 1, 1, 1, 1], 0)]),
  (64, [(.iinc 4 1, [], 0), (.goto (-60), [7, 1, 1, 1, 1, 1], 0)]),
  (70, [(.iload_n 2, [], 0), (.ireturn, [0], 0)])]
/-- MindReaders$Notes.<init>()V -/
def zc_93 : List (Nat × List zE) := [(0, [(.aload_n 0, [], 0), (.invokespecial 3, [], 0), (.aload_n 0, [], 0), (.new 9, [3, 2, 0], 0), (.dup, [], 0), (.bipush 10, [], 0), (.invokespecial 11, [105, 2, 0, 2, 3], 0), (.putfield 14, [1, 0, 2], 0), (.aload_n 0, [], 0), (.new 20, [4, 2, 2], 0), (.dup, [], 0), (.bipush 10, [], 0), (.bipush 8, [], 0), (.invokespecial 22, [120, 3, 0, 4, 4], 0), (.putfield 25, [1, 1, 2], 0), (.return_, [], 0)])]
/-- MindReaders$Notes.size()I -/
def zc_94 : List (Nat × List zE) := [(0, [(.aload_n 0, [], 0), (.getfield 14, [1, 0, 2], 0), (.invokevirtual 29, [106, 1, 1, 1, 3], 0), (.ireturn, [0], 0)])]
/-- MindReaders$Notes.thingOf(I)I -/
def zc_95 : List (Nat × List zE) := [(0, [(.aload_n 0, [], 0), (.getfield 14, [1, 0, 2], 0), (.iload_n 1, [], 0), (.invokevirtual 33, [107, 2, 1, 2, 3], 0), (.ireturn, [0], 0)])]
/-- MindReaders$Notes.rowOf(I)LMindReaders$Row; -/
def zc_96 : List (Nat × List zE) := [(0, [(.aload_n 0, [], 0), (.getfield 25, [1, 1, 2], 0), (.iload_n 1, [], 0), (.invokevirtual 37, [121, 2, 3, 3, 4], 0), (.areturn, [], 0)])]
/-- MindReaders$Notes.add(ILMindReaders$Row;)V -/
def zc_97 : List (Nat × List zE) := [(0, [(.aload_n 0, [], 0), (.getfield 25, [1, 1, 2], 0), (.aload_n 0, [], 0), (.getfield 14, [1, 0, 2], 0), (.invokevirtual 29, [106, 1, 1, 1, 3], 0), (.invokevirtual 37, [121, 2, 3, 3, 4], 0), (.aload_n 2, [], 0), (.invokevirtual 41, [112, 2, 0, 3, 3], 0), (.aload_n 0, [], 0), (.getfield 14, [1, 0, 2], 0), (.iload_n 1, [], 0), (.invokevirtual 45, [109, 2, 0, 2, 3], 0), (.return_, [], 0)])]
/-- MindReaders$Notes.wipe()V -/
def zc_98 : List (Nat × List zE) := [(0, [(.aload_n 0, [], 0), (.getfield 14, [1, 0, 2], 0), (.invokevirtual 48, [111, 1, 0, 1, 3], 0), (.return_, [], 0)])]
/-- MindReaders$Notes.copyOf(LMindReaders$Notes;)V -/
def zc_99 : List (Nat × List zE) := [(0, [(.aload_n 0, [], 0), (.invokevirtual 51, [98, 1, 0, 1, 1], 0), (.iconst 0, [], 0), (.istore_n 2, [], 0), (.nop, [6, 1, 1, 1], 0)]),
  (6, [(.iload_n 2, [], 0), (.aload_n 1, [], 0), (.invokevirtual 52, [94, 1, 1, 1, 1], 0), (.if_icmp .ge 23, [34], 0), (.aload_n 0, [], 0), (.aload_n 1, [], 0), (.iload_n 2, [], 0), (.invokevirtual 53, [95, 2, 1, 2, 1], 0), (.aload_n 1, [], 0), (.iload_n 2, [], 0), (.invokevirtual 56, [96, 2, 3, 2, 1], 0), (.invokevirtual 59, [97, 3, 0, 3, 1], 0), (.iinc 2 1, [], 0), (.goto (-25), [6, 1, 1, 1], 0)]),
  (34, [(.return_, [], 0)])]
/-- MindReaders$Readings.<init>()V -/
def zc_100 : List (Nat × List zE) := [(0, [(.aload_n 0, [], 0), (.invokespecial 3, [], 0), (.aload_n 0, [], 0), (.new 9, [3, 2, 0], 0), (.dup, [], 0), (.bipush 80, [], 0), (.invokespecial 13, [105, 2, 0, 2, 3], 0), (.putfield 16, [2, 0, 2], 0), (.return_, [], 0)])]
/-- MindReaders$Readings.leastTwice(LMindReaders$Code;)I -/
def zc_101 : List (Nat × List zE) := [(0, [(.aload_n 0, [], 0), (.ldc 20, [], 1000000), (.putfield 21, [2, 1, 0], 0), (.aload_n 0, [], 0), (.getfield 16, [2, 0, 2], 0), (.invokevirtual 25, [111, 1, 0, 1, 3], 0), (.iconst 0, [], 0), (.istore_n 2, [], 0), (.nop, [15, 1, 1, 1], 0)]),
  (15, [(.iload_n 2, [], 0), (.bipush 80, [], 0), (.if_icmp .ge 18, [36, 1, 1], 0), (.aload_n 0, [], 0), (.getfield 16, [2, 0, 2], 0), (.ldc 20, [], 1000000), (.invokevirtual 28, [109, 2, 0, 2, 3], 0), (.iinc 2 1, [], 0), (.goto (-18), [15, 1, 1, 1], 0)]),
  (36, [(.iconst 0, [], 0), (.istore_n 2, [], 0), (.nop, [38, 1, 1, 1], 0)]),
  (38, [(.iload_n 2, [], 0), (.aload_n 1, [], 0), (.invokevirtual 31, [83, 1, 1, 1, 0], 0), (.if_icmp .ge 44, [87, 1, 1], 0), (.iload_n 2, [], 0), (.iconst 1, [], 0), (.iadd, [], 0), (.istore_n 3, [], 0), (.nop, [50, 1, 1, 1, 1], 0)]),
  (50, [(.iload_n 3, [], 0), (.aload_n 1, [], 0), (.invokevirtual 31, [83, 1, 1, 1, 0], 0), (.if_icmp .ge 26, [81, 1, 1, 1], 0), (.aload_n 0, [], 0), (.aload_n 1, [], 0), (.iload_n 2, [], 0), (.iconst 0, [], 0), (.iload_n 3, [], 0), (.aload_n 1, [], 0), (.iload_n 2, [], 0), (.invokevirtual 37, [85, 2, 3, 2, 0], 0), (.invokevirtual 41, [106, 1, 1, 1, 3], 0), (.invokevirtual 42, [103, 6, 1, 10, 2], 0), (.pop, [], 0), (.iinc 3 1, [], 0), (.goto (-28), [50, 1, 1, 1, 1], 0)]),
  (81, [(.iinc 2 1, [], 0), (.goto (-46), [38, 1, 1, 1], 0)]),
  (87, [(.iconst 1, [], 0), (.istore_n 2, [], 0), (.iconst 0, [], 0), (.istore_n 3, [], 0), (.nop, [91, 1, 1, 1, 1], 0)]),
  (91, [(.iload_n 3, [], 0), (.bipush 80, [], 0), (.if_icmp .gt 19, [113, 1], 0), (.iload_n 2, [], 0), (.ifCond .eq 15, [113, 1], 0), (.aload_n 0, [], 0), (.aload_n 1, [], 0), (.invokevirtual 46, [102, 2, 1, 6, 2], 0), (.istore_n 2, [], 0), (.iinc 3 1, [], 0), (.goto (-19), [91, 1, 1, 1, 1], 0)]),
  (113, [(.aload_n 0, [], 0), (.getfield 21, [2, 1, 0], 0), (.ldc 20, [], 1000000), (.if_icmp .ge 10, [129], 0), (.aload_n 0, [], 0), (.getfield 21, [2, 1, 0], 0), (.goto 4, [130], 0)]),
  (129, [(.iconst (-1), [], 0), (.nop, [130], 0)]),
  (130, [(.ireturn, [0], 0)])]
/-- MindReaders$Readings.goOn(LMindReaders$Code;)Z -/
def zc_102 : List (Nat × List zE) := [(0, [(.iconst 0, [], 0), (.istore_n 2, [], 0), (.iconst 0, [], 0), (.istore_n 3, [], 0), (.nop, [4, 1, 1, 1, 1], 0)]),
  (4, [(.iload_n 3, [], 0), (.bipush 80, [], 0), (.if_icmp .ge 66, [73, 0, 0, 1], 0), (.aload_n 0, [], 0), (.getfield 16, [2, 0, 2], 0), (.iload_n 3, [], 0), (.invokevirtual 50, [107, 2, 1, 2, 3], 0), (.istore 4, [], 0), (.iconst 0, [], 0), (.istore 5, [], 0), (.nop, [23, 1, 1, 1, 1, 1, 1], 0)]),
  (23, [(.iload 5, [], 0), (.aload_n 1, [], 0), (.invokevirtual 31, [83, 1, 1, 1, 0], 0), (.if_icmp .ge 38, [67, 1, 1, 1, 1], 0), (.iload 4, [], 0), (.ldc 20, [], 1000000), (.if_icmp .ge 31, [67, 1, 1, 1, 1], 0), (.aload_n 0, [], 0), (.aload_n 1, [], 0), (.iload_n 3, [], 0), (.bipush 10, [], 0), (.idiv, [], 0), (.iload_n 3, [], 0), (.bipush 10, [], 0), (.irem, [], 0), (.iload 5, [], 0), (.iload 4, [], 0), (.invokevirtual 42, [103, 6, 1, 10, 2], 0), (.ifCond .eq 5, [61, 1, 1, 1, 1, 1, 1], 0), (.iconst 1, [], 0), (.istore_n 2, [], 0), (.nop, [61, 1, 1, 1, 1, 1, 1], 0)]),
  (61, [(.iinc 5 1, [], 0), (.goto (-41), [23, 1, 1, 1, 1, 1, 1], 0)]),
  (67, [(.iinc 3 1, [], 0), (.goto (-66), [4, 1, 1, 1, 1], 0)]),
  (73, [(.iload_n 2, [], 0), (.ireturn, [1], 0)])]
/-- MindReaders$Readings.meet(LMindReaders$Code;IIII)Z -/
def zc_103 : List (Nat × List zE) := [(0, [(.aload_n 1, [], 0), (.iload_n 2, [], 0), (.invokevirtual 37, [85, 2, 3, 2, 0], 0), (.astore 6, [], 0), (.aload_n 1, [], 0), (.iload 4, [], 0), (.invokevirtual 37, [85, 2, 3, 2, 0], 0), (.astore 7, [], 0), (.aload 6, [], 0), (.invokevirtual 41, [106, 1, 1, 1, 3], 0), (.iload_n 3, [], 0), (.isub, [], 0), (.istore 8, [], 0), (.iload 8, [], 0), (.ifCond .le 11, [37], 0), (.aload 7, [], 0), (.invokevirtual 41, [106, 1, 1, 1, 3], 0), (.ifCond .ne 5, [39, 1, 0, 1, 1, 1, 1, 1, 1, 1], 0), (.nop, [37], 0)]),
  (37, [(.iconst 0, [], 0), (.ireturn, [1], 0)]),
  (39, [(.iconst 0, [], 0), (.istore 9, [], 0), (.nop, [42, 1, 0, 1, 1, 1, 1, 1, 1, 1, 1], 0)]),
  (42, [(.iload 9, [], 0), (.iload 8, [], 0), (.if_icmp .ge 40, [86, 1, 0, 1, 1, 1, 1, 0, 1, 1], 0), (.iload 9, [], 0), (.aload 7, [], 0), (.invokevirtual 41, [106, 1, 1, 1, 3], 0), (.if_icmp .ge 30, [86, 1, 0, 1, 1, 1, 1, 0, 1, 1], 0), (.aload 6, [], 0), (.iload_n 3, [], 0), (.iload 9, [], 0), (.iadd, [], 0), (.invokevirtual 50, [107, 2, 1, 2, 3], 0), (.aload 7, [], 0), (.iload 9, [], 0), (.invokevirtual 50, [107, 2, 1, 2, 3], 0), (.if_icmp .eq 5, [80, 1, 0, 1, 1, 1, 1, 1, 1, 1, 1], 0), (.iconst 0, [], 0), (.ireturn, [1], 0)]),
  (80, [(.iinc 9 1, [], 0), (.goto (-41), [42, 1, 0, 1, 1, 1, 1, 1, 1, 1, 1], 0)]),
  (86, [(.iload 8, [], 0), (.aload 7, [], 0), (.invokevirtual 41, [106, 1, 1, 1, 3], 0), (.if_icmp .ne 18, [111, 1, 0, 1, 1, 1, 1, 0, 1, 1], 0), (.aload_n 0, [], 0), (.aload_n 0, [], 0), (.getfield 21, [2, 1, 0], 0), (.iload 5, [], 0), (.invokestatic 54, [1], 0), (.putfield 21, [2, 1, 0], 0), (.iconst 0, [], 0), (.ireturn, [1], 0)]),
  (111, [(.iload 8, [], 0), (.aload 7, [], 0), (.invokevirtual 41, [106, 1, 1, 1, 3], 0), (.if_icmp .le 18, [136, 1, 0, 0, 0, 1, 1, 0, 1, 1], 0), (.aload_n 0, [], 0), (.iload_n 2, [], 0), (.iload_n 3, [], 0), (.aload 7, [], 0), (.invokevirtual 41, [106, 1, 1, 1, 3], 0), (.iadd, [], 0), (.iload 5, [], 0), (.invokevirtual 60, [104, 4, 1, 5, 2], 0), (.ireturn, [1], 0)]),
  (136, [(.aload_n 0, [], 0), (.iload 4, [], 0), (.iload 8, [], 0), (.iload 5, [], 0), (.aload 7, [], 0), (.invokevirtual 41, [106, 1, 1, 1, 3], 0), (.iadd, [], 0), (.iload 8, [], 0), (.isub, [], 0), (.invokevirtual 60, [104, 4, 1, 5, 2], 0), (.ireturn, [1], 0)])]
/-- MindReaders$Readings.comeTo(III)Z -/
def zc_104 : List (Nat × List zE) := [(0, [(.iload_n 1, [], 0), (.bipush 10, [], 0), (.imul, [], 0), (.iload_n 2, [], 0), (.iadd, [], 0), (.istore 4, [], 0), (.iload_n 3, [], 0), (.aload_n 0, [], 0), (.getfield 16, [2, 0, 2], 0), (.iload 4, [], 0), (.invokevirtual 50, [107, 2, 1, 2, 3], 0), (.if_icmp .lt 5, [23, 1, 0, 0, 1, 1], 0), (.iconst 0, [], 0), (.ireturn, [1], 0)]),
  (23, [(.aload_n 0, [], 0), (.getfield 16, [2, 0, 2], 0), (.iload 4, [], 0), (.iload_n 3, [], 0), (.invokevirtual 64, [108, 3, 0, 3, 3], 0), (.iconst 1, [], 0), (.ireturn, [1], 0)])]
/-- MindReaders$Row.<init>(I)V -/
def zc_105 : List (Nat × List zE) := [(0, [(.aload_n 0, [], 0), (.invokespecial 3, [], 0), (.aload_n 0, [], 0), (.iload_n 1, [], 0), (.iconst 0, [], 0), (.invokestatic 9, [0], 0), (.newarray .int, [0], 0), (.putfield 15, [3, 0, 2], 0), (.return_, [], 0)])]
/-- MindReaders$Row.size()I -/
def zc_106 : List (Nat × List zE) := [(0, [(.aload_n 0, [], 0), (.getfield 21, [3, 1, 0], 0), (.ireturn, [0], 0)])]
/-- MindReaders$Row.at(I)I -/
def zc_107 : List (Nat × List zE) := [(0, [(.iload_n 1, [], 0), (.ifCond .lt 29, [30], 0), (.iload_n 1, [], 0), (.aload_n 0, [], 0), (.getfield 21, [3, 1, 0], 0), (.if_icmp .ge 21, [30], 0), (.iload_n 1, [], 0), (.aload_n 0, [], 0), (.getfield 15, [3, 0, 2], 0), (.arraylength, [], 0), (.if_icmp .ge 12, [30], 0), (.aload_n 0, [], 0), (.getfield 15, [3, 0, 2], 0), (.iload_n 1, [], 0), (.iaload, [], 0), (.goto 4, [31], 0)]),
  (30, [(.iconst (-1), [], 0), (.nop, [31], 0)]),
  (31, [(.ireturn, [0], 0)])]
/-- MindReaders$Row.set(II)V -/
def zc_108 : List (Nat × List zE) := [(0, [(.iload_n 1, [], 0), (.ifCond .lt 27, [28], 0), (.iload_n 1, [], 0), (.aload_n 0, [], 0), (.getfield 21, [3, 1, 0], 0), (.if_icmp .ge 19, [28], 0), (.iload_n 1, [], 0), (.aload_n 0, [], 0), (.getfield 15, [3, 0, 2], 0), (.arraylength, [], 0), (.if_icmp .ge 10, [28], 0), (.aload_n 0, [], 0), (.getfield 15, [3, 0, 2], 0), (.iload_n 1, [], 0), (.iload_n 2, [], 0), (.iastore, [], 0), (.nop, [28], 0)]),
  (28, [(.return_, [], 0)])]
/-- MindReaders$Row.add(I)V -/
def zc_109 : List (Nat × List zE) := [(0, [(.aload_n 0, [], 0), (.getfield 21, [3, 1, 0], 0), (.ifCond .lt 35, [39], 0), (.aload_n 0, [], 0), (.getfield 21, [3, 1, 0], 0), (.aload_n 0, [], 0), (.getfield 15, [3, 0, 2], 0), (.arraylength, [], 0), (.if_icmp .ge 23, [39], 0), (.aload_n 0, [], 0), (.getfield 15, [3, 0, 2], 0), (.aload_n 0, [], 0), (.getfield 21, [3, 1, 0], 0), (.iload_n 1, [], 0), (.iastore, [], 0), (.aload_n 0, [], 0), (.dup, [], 0), (.getfield 21, [3, 1, 0], 0), (.iconst 1, [], 0), (.iadd, [], 0), (.putfield 21, [3, 1, 0], 0), (.nop, [39], 0)]),
  (39, [(.return_, [], 0)])]
/-- MindReaders$Row.dropLast()V -/
def zc_110 : List (Nat × List zE) := [(0, [(.aload_n 0, [], 0), (.getfield 21, [3, 1, 0], 0), (.ifCond .le 13, [17], 0), (.aload_n 0, [], 0), (.dup, [], 0), (.getfield 21, [3, 1, 0], 0), (.iconst 1, [], 0), (.isub, [], 0), (.putfield 21, [3, 1, 0], 0), (.nop, [17], 0)]),
  (17, [(.return_, [], 0)])]
/-- MindReaders$Row.wipe()V -/
def zc_111 : List (Nat × List zE) := [(0, [(.aload_n 0, [], 0), (.iconst 0, [], 0), (.putfield 21, [3, 1, 0], 0), (.return_, [], 0)])]
/-- MindReaders$Row.copyOf(LMindReaders$Row;)V -/
def zc_112 : List (Nat × List zE) := [(0, [(.aload_n 0, [], 0), (.invokevirtual 25, [111, 1, 0, 1, 3], 0), (.iconst 0, [], 0), (.istore_n 2, [], 0), (.nop, [6, 1, 1, 1], 0)]),
  (6, [(.iload_n 2, [], 0), (.aload_n 1, [], 0), (.invokevirtual 28, [106, 1, 1, 1, 3], 0), (.if_icmp .ge 18, [29], 0), (.aload_n 0, [], 0), (.aload_n 1, [], 0), (.iload_n 2, [], 0), (.invokevirtual 31, [107, 2, 1, 2, 3], 0), (.invokevirtual 35, [109, 2, 0, 2, 3], 0), (.iinc 2 1, [], 0), (.goto (-20), [6, 1, 1, 1], 0)]),
  (29, [(.return_, [], 0)])]
/-- MindReaders$Row.isLike(LMindReaders$Row;)Z -/
def zc_113 : List (Nat × List zE) := [(0, [(.aload_n 0, [], 0), (.getfield 21, [3, 1, 0], 0), (.aload_n 1, [], 0), (.invokevirtual 28, [106, 1, 1, 1, 3], 0), (.if_icmp .ne 15, [23], 0), (.aload_n 0, [], 0), (.aload_n 1, [], 0), (.invokevirtual 39, [114, 2, 1, 3, 3], 0), (.ifCond .eq 7, [23], 0), (.iconst 1, [], 0), (.goto 4, [24], 0)]),
  (23, [(.iconst 0, [], 0), (.nop, [24], 0)]),
  (24, [(.ireturn, [1], 0)])]
/-- MindReaders$Row.isStartOf(LMindReaders$Row;)Z -/
def zc_114 : List (Nat × List zE) := [(0, [(.iconst 0, [], 0), (.istore_n 2, [], 0), (.nop, [2, 1, 1, 1], 0)]),
  (2, [(.iload_n 2, [], 0), (.aload_n 0, [], 0), (.getfield 21, [3, 1, 0], 0), (.if_icmp .ge 24, [31], 0), (.aload_n 0, [], 0), (.iload_n 2, [], 0), (.invokevirtual 31, [107, 2, 1, 2, 3], 0), (.aload_n 1, [], 0), (.iload_n 2, [], 0), (.invokevirtual 31, [107, 2, 1, 2, 3], 0), (.if_icmp .eq 5, [25, 1, 1, 1], 0), (.iconst 0, [], 0), (.ireturn, [1], 0)]),
  (25, [(.iinc 2 1, [], 0), (.goto (-26), [2, 1, 1, 1], 0)]),
  (31, [(.iconst 1, [], 0), (.ireturn, [1], 0)])]
/-- MindReaders$Row.placesApart(LMindReaders$Row;)I -/
def zc_115 : List (Nat × List zE) := [(0, [(.iconst 0, [], 0), (.istore_n 2, [], 0), (.iconst 0, [], 0), (.istore_n 3, [], 0), (.nop, [4, 1, 1, 1, 1], 0)]),
  (4, [(.iload_n 3, [], 0), (.aload_n 0, [], 0), (.getfield 21, [3, 1, 0], 0), (.if_icmp .ge 25, [34, 0, 0, 1], 0), (.aload_n 0, [], 0), (.iload_n 3, [], 0), (.invokevirtual 31, [107, 2, 1, 2, 3], 0), (.aload_n 1, [], 0), (.iload_n 3, [], 0), (.invokevirtual 31, [107, 2, 1, 2, 3], 0), (.if_icmp .eq 6, [28, 1, 1, 1, 1], 0), (.iinc 2 1, [], 0), (.nop, [28, 1, 1, 1, 1], 0)]),
  (28, [(.iinc 3 1, [], 0), (.goto (-27), [4, 1, 1, 1, 1], 0)]),
  (34, [(.iload_n 2, [], 0), (.ireturn, [0], 0)])]
/-- MindReaders$Row.isBelow(I)Z -/
def zc_116 : List (Nat × List zE) := [(0, [(.iconst 0, [], 0), (.istore_n 2, [], 0), (.nop, [2, 1, 1, 1], 0)]),
  (2, [(.iload_n 2, [], 0), (.aload_n 0, [], 0), (.getfield 21, [3, 1, 0], 0), (.if_icmp .ge 20, [27], 0), (.aload_n 0, [], 0), (.iload_n 2, [], 0), (.invokevirtual 31, [107, 2, 1, 2, 3], 0), (.iload_n 1, [], 0), (.if_icmp .lt 5, [21, 1, 1, 1], 0), (.iconst 0, [], 0), (.ireturn, [1], 0)]),
  (21, [(.iinc 2 1, [], 0), (.goto (-22), [2, 1, 1, 1], 0)]),
  (27, [(.iconst 1, [], 0), (.ireturn, [1], 0)])]
/-- MindReaders$Row.sumOf(I)I -/
def zc_117 : List (Nat × List zE) := [(0, [(.iconst 0, [], 0), (.istore_n 2, [], 0), (.iconst 0, [], 0), (.istore_n 3, [], 0), (.nop, [4, 1, 1, 1, 1], 0)]),
  (4, [(.iload_n 3, [], 0), (.iload_n 1, [], 0), (.if_icmp .ge 25, [31, 0, 0, 1], 0), (.iload_n 3, [], 0), (.aload_n 0, [], 0), (.getfield 21, [3, 1, 0], 0), (.if_icmp .ge 17, [31, 0, 0, 1], 0), (.iload_n 2, [], 0), (.aload_n 0, [], 0), (.iload_n 3, [], 0), (.invokevirtual 31, [107, 2, 1, 2, 3], 0), (.iadd, [], 0), (.istore_n 2, [], 0), (.iinc 3 1, [], 0), (.goto (-24), [4, 1, 1, 1, 1], 0)]),
  (31, [(.iload_n 2, [], 0), (.ireturn, [0], 0)])]
/-- MindReaders$Row.takeLeast()I -/
def zc_118 : List (Nat × List zE) := [(0, [(.aload_n 0, [], 0), (.getfield 21, [3, 1, 0], 0), (.ifCond .gt 5, [9, 1], 0), (.iconst 0, [], 0), (.ireturn, [0], 0)]),
  (9, [(.iconst 0, [], 0), (.istore_n 1, [], 0), (.iconst 1, [], 0), (.istore_n 2, [], 0), (.nop, [13, 1, 1, 1], 0)]),
  (13, [(.iload_n 2, [], 0), (.aload_n 0, [], 0), (.getfield 21, [3, 1, 0], 0), (.if_icmp .ge 24, [42, 1, 1], 0), (.aload_n 0, [], 0), (.iload_n 2, [], 0), (.invokevirtual 31, [107, 2, 1, 2, 3], 0), (.aload_n 0, [], 0), (.iload_n 1, [], 0), (.invokevirtual 31, [107, 2, 1, 2, 3], 0), (.if_icmp .ge 5, [36, 1, 1, 1], 0), (.iload_n 2, [], 0), (.istore_n 1, [], 0), (.nop, [36, 1, 1, 1], 0)]),
  (36, [(.iinc 2 1, [], 0), (.goto (-26), [13, 1, 1, 1], 0)]),
  (42, [(.aload_n 0, [], 0), (.iload_n 1, [], 0), (.invokevirtual 31, [107, 2, 1, 2, 3], 0), (.istore_n 2, [], 0), (.aload_n 0, [], 0), (.iload_n 1, [], 0), (.aload_n 0, [], 0), (.aload_n 0, [], 0), (.getfield 21, [3, 1, 0], 0), (.iconst 1, [], 0), (.isub, [], 0), (.invokevirtual 31, [107, 2, 1, 2, 3], 0), (.invokevirtual 43, [108, 3, 0, 3, 3], 0), (.aload_n 0, [], 0), (.invokevirtual 47, [110, 1, 0, 1, 3], 0), (.iload_n 2, [], 0), (.ireturn, [0], 0)])]
/-- MindReaders$Row.turn(I)V -/
def zc_119 : List (Nat × List zE) := [(0, [(.iconst 0, [], 0), (.istore_n 2, [], 0), (.nop, [2, 1, 1, 1], 0)]),
  (2, [(.iload_n 2, [], 0), (.aload_n 0, [], 0), (.getfield 21, [3, 1, 0], 0), (.if_icmp .ge 35, [42], 0), (.aload_n 0, [], 0), (.iload_n 2, [], 0), (.invokevirtual 31, [107, 2, 1, 2, 3], 0), (.iconst 1, [], 0), (.iadd, [], 0), (.istore_n 3, [], 0), (.iload_n 3, [], 0), (.iload_n 1, [], 0), (.if_icmp .ge 10, [30, 1, 1, 1], 0), (.aload_n 0, [], 0), (.iload_n 2, [], 0), (.iload_n 3, [], 0), (.invokevirtual 43, [108, 3, 0, 3, 3], 0), (.return_, [], 0)]),
  (30, [(.aload_n 0, [], 0), (.iload_n 2, [], 0), (.iconst 0, [], 0), (.invokevirtual 43, [108, 3, 0, 3, 3], 0), (.iinc 2 1, [], 0), (.goto (-37), [2, 1, 1, 1], 0)]),
  (42, [(.return_, [], 0)])]
/-- MindReaders$Rows.<init>(II)V -/
def zc_120 : List (Nat × List zE) := [(0, [(.aload_n 0, [], 0), (.invokespecial 1, [], 0), (.aload_n 0, [], 0), (.new 7, [3, 2, 0], 0), (.dup, [], 0), (.iconst 0, [], 0), (.invokespecial 9, [105, 2, 0, 2, 3], 0), (.putfield 12, [4, 1, 2], 0), (.aload_n 0, [], 0), (.iload_n 1, [], 0), (.iconst 0, [], 0), (.invokestatic 18, [0], 0), (.anewarray 7, [105], 0), (.putfield 24, [4, 0, 2], 0), (.iconst 0, [], 0), (.istore_n 3, [], 0), (.nop, [30, 1, 0, 1, 1], 0)]),
  (30, [(.iload_n 3, [], 0), (.aload_n 0, [], 0), (.getfield 24, [4, 0, 2], 0), (.arraylength, [], 0), (.if_icmp .ge 23, [59], 0), (.aload_n 0, [], 0), (.getfield 24, [4, 0, 2], 0), (.iload_n 3, [], 0), (.new 7, [3, 2, 0], 0), (.dup, [], 0), (.iload_n 2, [], 0), (.invokespecial 9, [105, 2, 0, 2, 3], 0), (.aastore, [105, 3], 0), (.iinc 3 1, [], 0), (.goto (-26), [30, 1, 0, 1, 1], 0)]),
  (59, [(.return_, [], 0)])]
/-- MindReaders$Rows.row(I)LMindReaders$Row; -/
def zc_121 : List (Nat × List zE) := [(0, [(.iload_n 1, [], 0), (.ifCond .lt 21, [22, 1], 0), (.iload_n 1, [], 0), (.aload_n 0, [], 0), (.getfield 24, [4, 0, 2], 0), (.arraylength, [], 0), (.if_icmp .ge 12, [22, 1], 0), (.aload_n 0, [], 0), (.getfield 24, [4, 0, 2], 0), (.iload_n 1, [], 0), (.aaload, [105], 0), (.goto 4, [23, 1], 0)]),
  (22, [(.aconst_null, [], 0), (.nop, [23, 1], 0)]),
  (23, [(.astore_n 2, [], 0), (.aload_n 2, [], 0), (.ifnonnull 10, [35, 0, 0, 1], 0), (.aload_n 0, [], 0), (.getfield 12, [4, 1, 2], 0), (.goto 4, [36], 0)]),
  (35, [(.aload_n 2, [], 0), (.nop, [36], 0)]),
  (36, [(.areturn, [], 0)])]
/-- MindReaders$Signals.<init>()V -/
def zc_122 : List (Nat × List zE) := [(0, [(.aload_n 0, [], 0), (.invokespecial 3, [], 0), (.aload_n 0, [], 0), (.new 9, [3, 2, 0], 0), (.dup, [], 0), (.bipush 8, [], 0), (.invokespecial 11, [105, 2, 0, 2, 3], 0), (.putfield 14, [5, 0, 2], 0), (.aload_n 0, [], 0), (.new 9, [3, 2, 0], 0), (.dup, [], 0), (.bipush 8, [], 0), (.invokespecial 11, [105, 2, 0, 2, 3], 0), (.putfield 20, [5, 1, 2], 0), (.aload_n 0, [], 0), (.new 9, [3, 2, 0], 0), (.dup, [], 0), (.bipush 8, [], 0), (.invokespecial 11, [105, 2, 0, 2, 3], 0), (.putfield 23, [5, 2, 2], 0), (.aload_n 0, [], 0), (.new 9, [3, 2, 0], 0), (.dup, [], 0), (.bipush 8, [], 0), (.invokespecial 11, [105, 2, 0, 2, 3], 0), (.putfield 26, [5, 3, 2], 0), (.return_, [], 0)])]
/-- MindReaders$Signals.told()I -/
def zc_123 : List (Nat × List zE) := [(0, [(.aload_n 0, [], 0), (.getfield 14, [5, 0, 2], 0), (.invokevirtual 29, [106, 1, 1, 1, 3], 0), (.ireturn, [0], 0)])]
/-- MindReaders$Signals.isTold(I)Z -/
def zc_124 : List (Nat × List zE) := [(0, [(.iload_n 1, [], 0), (.ifCond .lt 18, [19], 0), (.iload_n 1, [], 0), (.aload_n 0, [], 0), (.getfield 14, [5, 0, 2], 0), (.invokevirtual 29, [106, 1, 1, 1, 3], 0), (.if_icmp .ge 7, [19], 0), (.iconst 1, [], 0), (.goto 4, [20], 0)]),
  (19, [(.iconst 0, [], 0), (.nop, [20], 0)]),
  (20, [(.ireturn, [1], 0)])]
/-- MindReaders$Signals.tell(IIII)V -/
def zc_125 : List (Nat × List zE) := [(0, [(.aload_n 0, [], 0), (.getfield 14, [5, 0, 2], 0), (.iload_n 1, [], 0), (.invokevirtual 33, [109, 2, 0, 2, 3], 0), (.aload_n 0, [], 0), (.getfield 20, [5, 1, 2], 0), (.iload_n 2, [], 0), (.invokevirtual 33, [109, 2, 0, 2, 3], 0), (.aload_n 0, [], 0), (.getfield 23, [5, 2, 2], 0), (.iload_n 3, [], 0), (.invokevirtual 33, [109, 2, 0, 2, 3], 0), (.aload_n 0, [], 0), (.getfield 26, [5, 3, 2], 0), (.iload 4, [], 0), (.invokevirtual 33, [109, 2, 0, 2, 3], 0), (.return_, [], 0)])]
/-- MindReaders$Signals.kindOf(I)I -/
def zc_126 : List (Nat × List zE) := [(0, [(.aload_n 0, [], 0), (.getfield 14, [5, 0, 2], 0), (.iload_n 1, [], 0), (.invokevirtual 36, [107, 2, 1, 2, 3], 0), (.istore_n 2, [], 0), (.iload_n 2, [], 0), (.iconst (-1), [], 0), (.if_icmp .ne 7, [18, 0, 0, 1], 0), (.iconst 0, [], 0), (.goto 4, [19], 0)]),
  (18, [(.iload_n 2, [], 0), (.nop, [19], 0)]),
  (19, [(.ireturn, [0], 0)])]
/-- MindReaders$Signals.toneOf(I)I -/
def zc_127 : List (Nat × List zE) := [(0, [(.aload_n 0, [], 0), (.getfield 20, [5, 1, 2], 0), (.iload_n 1, [], 0), (.invokevirtual 36, [107, 2, 1, 2, 3], 0), (.ireturn, [0], 0)])]
/-- MindReaders$Signals.secondsOf(I)I -/
def zc_128 : List (Nat × List zE) := [(0, [(.aload_n 0, [], 0), (.getfield 23, [5, 2, 2], 0), (.iload_n 1, [], 0), (.invokevirtual 36, [107, 2, 1, 2, 3], 0), (.istore_n 2, [], 0), (.iload_n 2, [], 0), (.iconst (-1), [], 0), (.if_icmp .ne 7, [18, 0, 0, 1], 0), (.iconst 1, [], 0), (.goto 4, [19], 0)]),
  (18, [(.iload_n 2, [], 0), (.nop, [19], 0)]),
  (19, [(.ireturn, [0], 0)])]
/-- MindReaders$Signals.oddOf(I)I -/
def zc_129 : List (Nat × List zE) := [(0, [(.aload_n 0, [], 0), (.getfield 26, [5, 3, 2], 0), (.iload_n 1, [], 0), (.invokevirtual 36, [107, 2, 1, 2, 3], 0), (.istore_n 2, [], 0), (.iload_n 2, [], 0), (.iconst (-1), [], 0), (.if_icmp .ne 7, [18, 0, 0, 1], 0), (.iconst 0, [], 0), (.goto 4, [19], 0)]),
  (18, [(.iload_n 2, [], 0), (.nop, [19], 0)]),
  (19, [(.ireturn, [0], 0)])]
/-- MindReaders$Signals.isToneFor(II)Z -/
def zc_130 : List (Nat × List zE) := [(0, [(.iload_n 1, [], 0), (.iconst 2, [], 0), (.if_icmp .eq 14, [16, 1, 0, 1], 0), (.iload_n 2, [], 0), (.iconst (-1), [], 0), (.if_icmp .ne 7, [14], 0), (.iconst 1, [], 0), (.goto 4, [15], 0)]),
  (14, [(.iconst 0, [], 0), (.nop, [15], 0)]),
  (15, [(.ireturn, [1], 0)]),
  (16, [(.aload_n 0, [], 0), (.iload_n 2, [], 0), (.invokevirtual 40, [124, 2, 1, 2, 5], 0), (.ifCond .eq 24, [45], 0), (.aload_n 0, [], 0), (.iload_n 2, [], 0), (.invokevirtual 44, [126, 2, 1, 3, 5], 0), (.ifCond .eq 12, [41], 0), (.aload_n 0, [], 0), (.iload_n 2, [], 0), (.invokevirtual 44, [126, 2, 1, 3, 5], 0), (.iconst 1, [], 0), (.if_icmp .ne 7, [45], 0), (.nop, [41], 0)]),
  (41, [(.iconst 1, [], 0), (.goto 4, [46], 0)]),
  (45, [(.iconst 0, [], 0), (.nop, [46], 0)]),
  (46, [(.ireturn, [1], 0)])]
/-- MindReaders$Signals.secondsOfAll(LMindReaders$Row;)I -/
def zc_131 : List (Nat × List zE) := [(0, [(.iconst 0, [], 0), (.istore_n 2, [], 0), (.iconst 0, [], 0), (.istore_n 3, [], 0), (.nop, [4, 1, 1, 1, 1], 0)]),
  (4, [(.iload_n 3, [], 0), (.aload_n 1, [], 0), (.invokevirtual 29, [106, 1, 1, 1, 3], 0), (.if_icmp .ge 21, [30, 0, 0, 1], 0), (.iload_n 2, [], 0), (.aload_n 0, [], 0), (.aload_n 1, [], 0), (.iload_n 3, [], 0), (.invokevirtual 36, [107, 2, 1, 2, 3], 0), (.invokevirtual 47, [128, 2, 1, 3, 5], 0), (.iadd, [], 0), (.istore_n 2, [], 0), (.iinc 3 1, [], 0), (.goto (-23), [4, 1, 1, 1, 1], 0)]),
  (30, [(.iload_n 2, [], 0), (.ireturn, [0], 0)])]
/-- MindReaders$Signals.oddOfAll(LMindReaders$Row;)I -/
def zc_132 : List (Nat × List zE) := [(0, [(.iconst 0, [], 0), (.istore_n 2, [], 0), (.iconst 0, [], 0), (.istore_n 3, [], 0), (.nop, [4, 1, 1, 1, 1], 0)]),
  (4, [(.iload_n 3, [], 0), (.aload_n 1, [], 0), (.invokevirtual 29, [106, 1, 1, 1, 3], 0), (.if_icmp .ge 21, [30, 0, 0, 1], 0), (.iload_n 2, [], 0), (.aload_n 0, [], 0), (.aload_n 1, [], 0), (.iload_n 3, [], 0), (.invokevirtual 36, [107, 2, 1, 2, 3], 0), (.invokevirtual 50, [129, 2, 1, 3, 5], 0), (.iadd, [], 0), (.istore_n 2, [], 0), (.iinc 3 1, [], 0), (.goto (-23), [4, 1, 1, 1, 1], 0)]),
  (30, [(.iload_n 2, [], 0), (.ireturn, [0], 0)])]
/-- MindReaders$Signals.makePlain(LMindReaders$Row;ILMindReaders$Row;)V -/
def zc_133 : List (Nat × List zE) := [(0, [(.aload_n 3, [], 0), (.invokevirtual 53, [111, 1, 0, 1, 3], 0), (.iconst 0, [], 0), (.istore 4, [], 0), (.nop, [7, 1, 1, 1, 1, 1], 0)]),
  (7, [(.iload 4, [], 0), (.aload_n 1, [], 0), (.invokevirtual 29, [106, 1, 1, 1, 3], 0), (.if_icmp .ge 96, [109], 0), (.aload_n 1, [], 0), (.iload 4, [], 0), (.invokevirtual 36, [107, 2, 1, 2, 3], 0), (.istore 5, [], 0), (.iload_n 2, [], 0), (.iload 5, [], 0), (.ishr, [], 0), (.iconst 1, [], 0), (.iand, [], 0), (.ifCond .eq 6, [36, 1, 1, 1, 1, 1, 1], 0), (.goto 70, [103, 1, 1, 1, 1, 1], 0)]),
  (36, [(.aload_n 0, [], 0), (.iload 5, [], 0), (.invokevirtual 44, [126, 2, 1, 3, 5], 0), (.istore 6, [], 0), (.iload 6, [], 0), (.ifCond .eq 9, [55, 1, 1, 1, 1, 1, 1], 0), (.iload 6, [], 0), (.iconst 1, [], 0), (.if_icmp .ne 12, [64, 1, 1, 1, 1, 1, 1, 1], 0), (.nop, [55, 1, 1, 1, 1, 1, 1], 0)]),
  (55, [(.aload_n 3, [], 0), (.iload 5, [], 0), (.invokevirtual 33, [109, 2, 0, 2, 3], 0), (.goto 42, [103, 1, 1, 1, 1, 1], 0)]),
  (64, [(.iload 6, [], 0), (.iconst 2, [], 0), (.if_icmp .ne 26, [93, 1, 1, 1, 1, 1, 0, 1], 0), (.aload_n 3, [], 0), (.aload_n 0, [], 0), (.iload 5, [], 0), (.invokevirtual 56, [127, 2, 1, 2, 5], 0), (.invokevirtual 33, [109, 2, 0, 2, 3], 0), (.aload_n 3, [], 0), (.aload_n 0, [], 0), (.iload 5, [], 0), (.invokevirtual 56, [127, 2, 1, 2, 5], 0), (.invokevirtual 33, [109, 2, 0, 2, 3], 0), (.goto 13, [103, 1, 1, 1, 1, 1], 0)]),
  (93, [(.iload 6, [], 0), (.iconst 4, [], 0), (.if_icmp .ne 7, [103, 1, 1, 1, 1, 1], 0), (.aload_n 3, [], 0), (.invokevirtual 59, [110, 1, 0, 1, 3], 0), (.nop, [103, 1, 1, 1, 1, 1], 0)]),
  (103, [(.iinc 4 1, [], 0), (.goto (-99), [7, 1, 1, 1, 1, 1], 0)]),
  (109, [(.return_, [], 0)])]
/-- MindReaders.<init>()V -/
def zc_134 : List (Nat × List zE) := [(0, [(.aload_n 0, [], 0), (.invokespecial 3, [], 0), (.aload_n 0, [], 0), (.new 9, [5, 2, 2, 2, 2], 0), (.dup, [], 0), (.invokespecial 11, [122, 1, 0, 1, 5], 0), (.putfield 12, [6, 0, 2], 0), (.aload_n 0, [], 0), (.new 16, [3, 2, 0], 0), (.dup, [], 0), (.bipush 8, [], 0), (.invokespecial 18, [105, 2, 0, 2, 3], 0), (.putfield 21, [6, 1, 2], 0), (.aload_n 0, [], 0), (.iconst 4, [], 0), (.anewarray 25, [102], 0), (.putfield 27, [6, 2, 2], 0), (.aload_n 0, [], 0), (.new 16, [3, 2, 0], 0), (.dup, [], 0), (.bipush 48, [], 0), (.invokespecial 18, [105, 2, 0, 2, 3], 0), (.putfield 31, [6, 4, 2], 0), (.aload_n 0, [], 0), (.new 34, [1, 2, 2], 0), (.dup, [], 0), (.invokespecial 36, [93, 1, 0, 1, 1], 0), (.putfield 37, [6, 5, 2], 0), (.aload_n 0, [], 0), (.new 16, [3, 2, 0], 0), (.dup, [], 0), (.bipush 8, [], 0), (.invokespecial 18, [105, 2, 0, 2, 3], 0), (.putfield 41, [6, 6, 2], 0), (.aload_n 0, [], 0), (.new 34, [1, 2, 2], 0), (.dup, [], 0), (.invokespecial 36, [93, 1, 0, 1, 1], 0), (.putfield 44, [6, 7, 2], 0), (.aload_n 0, [], 0), (.new 16, [3, 2, 0], 0), (.dup, [], 0), (.bipush 48, [], 0), (.invokespecial 18, [105, 2, 0, 2, 3], 0), (.putfield 47, [6, 9, 2], 0), (.aload_n 0, [], 0), (.new 16, [3, 2, 0], 0), (.dup, [], 0), (.bipush 96, [], 0), (.invokespecial 18, [105, 2, 0, 2, 3], 0), (.putfield 50, [6, 10, 2], 0), (.aload_n 0, [], 0), (.new 16, [3, 2, 0], 0), (.dup, [], 0), (.bipush 8, [], 0), (.invokespecial 18, [105, 2, 0, 2, 3], 0), (.putfield 53, [6, 11, 2], 0), (.aload_n 0, [], 0), (.new 56, [4, 2, 2], 0), (.dup, [], 0), (.bipush 8, [], 0), (.bipush 10, [], 0), (.invokespecial 58, [120, 3, 0, 4, 4], 0), (.putfield 61, [6, 12, 2], 0), (.aload_n 0, [], 0), (.new 65, [2, 2, 0], 0), (.dup, [], 0), (.invokespecial 67, [100, 1, 0, 1, 2], 0), (.putfield 68, [6, 13, 2], 0), (.iconst 0, [], 0), (.istore_n 1, [], 0), (.nop, [151, 1, 1], 0)]),
  (151, [(.iload_n 1, [], 0), (.aload_n 0, [], 0), (.getfield 27, [6, 2, 2], 0), (.arraylength, [], 0), (.if_icmp .ge 22, [179], 0), (.aload_n 0, [], 0), (.getfield 27, [6, 2, 2], 0), (.iload_n 1, [], 0), (.new 25, [0, 2, 2, 0], 0), (.dup, [], 0), (.invokespecial 72, [82, 1, 0, 1, 0], 0), (.aastore, [102, 0], 0), (.iinc 1 1, [], 0), (.goto (-25), [151, 1, 1], 0)]),
  (179, [(.return_, [], 0)])]
/-- MindReaders.letters(J)I -/
def zc_135 : List (Nat × List zE) := [(0, [(.lload_n 1, [], 0), (.invokestatic 73, [174, 1, 1, 5], 0), (.istore_n 3, [], 0), (.iload_n 3, [], 0), (.iconst (-1), [], 0), (.if_icmp .ne 6, [13, 1, 1, 0, 1], 0), (.bipush (-102), [], 0), (.ireturn, [0], 0)]),
  (13, [(.aload_n 0, [], 0), (.getfield 31, [6, 4, 2], 0), (.invokevirtual 77, [106, 1, 1, 1, 3], 0), (.iload_n 3, [], 0), (.iadd, [], 0), (.bipush 48, [], 0), (.if_icmp .le 6, [30, 1, 1, 0, 1], 0), (.bipush (-104), [], 0), (.ireturn, [0], 0)]),
  (30, [(.iconst 0, [], 0), (.istore 4, [], 0), (.nop, [33, 1, 1, 0, 1, 1], 0)]),
  (33, [(.iload 4, [], 0), (.iload_n 3, [], 0), (.if_icmp .ge 22, [58, 1], 0), (.aload_n 0, [], 0), (.getfield 31, [6, 4, 2], 0), (.lload_n 1, [], 0), (.iload 4, [], 0), (.invokestatic 81, [173, 2, 1, 3], 0), (.invokevirtual 85, [109, 2, 0, 2, 3], 0), (.iinc 4 1, [], 0), (.goto (-22), [33, 1, 1, 0, 1, 1], 0)]),
  (58, [(.aload_n 0, [], 0), (.getfield 31, [6, 4, 2], 0), (.invokevirtual 77, [106, 1, 1, 1, 3], 0), (.ireturn, [0], 0)])]
/-- MindReaders.blank()I -/
def zc_136 : List (Nat × List zE) := [(0, [(.aload_n 0, [], 0), (.getfield 31, [6, 4, 2], 0), (.invokevirtual 77, [106, 1, 1, 1, 3], 0), (.istore_n 1, [], 0), (.aload_n 0, [], 0), (.getfield 31, [6, 4, 2], 0), (.invokevirtual 88, [111, 1, 0, 1, 3], 0), (.iload_n 1, [], 0), (.ireturn, [0], 0)])]
/-- MindReaders.fault()I -/
def zc_137 : List (Nat × List zE) := [(0, [(.aload_n 0, [], 0), (.invokevirtual 91, [176, 1, 1, 5, 6], 0), (.ireturn, [0], 0)])]
/-- MindReaders.code()I -/
def zc_138 : List (Nat × List zE) := [(0, [(.aload_n 0, [], 0), (.getfield 31, [6, 4, 2], 0), (.aload_n 0, [], 0), (.getfield 31, [6, 4, 2], 0), (.invokevirtual 77, [106, 1, 1, 1, 3], 0), (.iconst 1, [], 0), (.isub, [], 0), (.invokevirtual 94, [107, 2, 1, 2, 3], 0), (.invokestatic 98, [175, 1, 1, 1], 0), (.iconst (-1), [], 0), (.if_icmp .eq 7, [27, 1], 0), (.iconst 1, [], 0), (.goto 4, [28, 1], 0)]),
  (27, [(.iconst 0, [], 0), (.nop, [28, 1], 0)]),
  (28, [(.istore_n 1, [], 0), (.iload_n 1, [], 0), (.ifCond .eq 17, [47], 0), (.aload_n 0, [], 0), (.invokevirtual 91, [176, 1, 1, 5, 6], 0), (.aload_n 0, [], 0), (.getfield 31, [6, 4, 2], 0), (.invokevirtual 77, [106, 1, 1, 1, 3], 0), (.if_icmp .ge 6, [50, 1], 0), (.nop, [47], 0)]),
  (47, [(.bipush (-103), [], 0), (.ireturn, [0], 0)]),
  (50, [(.aload_n 0, [], 0), (.getfield 101, [6, 3, 0], 0), (.ifCond .lt 15, [69], 0), (.aload_n 0, [], 0), (.getfield 101, [6, 3, 0], 0), (.aload_n 0, [], 0), (.getfield 27, [6, 2, 2], 0), (.arraylength, [], 0), (.if_icmp .lt 6, [72, 1], 0), (.nop, [69], 0)]),
  (69, [(.bipush (-104), [], 0), (.ireturn, [0], 0)]),
  (72, [(.aload_n 0, [], 0), (.getfield 27, [6, 2, 2], 0), (.aload_n 0, [], 0), (.getfield 101, [6, 3, 0], 0), (.aaload, [102], 0), (.astore_n 2, [], 0), (.aload_n 2, [], 0), (.ifnonnull 6, [89, 1, 0, 1], 0), (.bipush (-104), [], 0), (.ireturn, [0], 0)]),
  (89, [(.aload_n 2, [], 0), (.aload_n 0, [], 0), (.getfield 31, [6, 4, 2], 0), (.invokevirtual 105, [86, 2, 0, 4, 0], 0), (.aload_n 2, [], 0), (.aload_n 0, [], 0), (.getfield 12, [6, 0, 2], 0), (.invokevirtual 109, [87, 2, 0, 3, 0], 0), (.aload_n 0, [], 0), (.getfield 31, [6, 4, 2], 0), (.invokevirtual 88, [111, 1, 0, 1, 3], 0), (.aload_n 0, [], 0), (.dup, [], 0), (.getfield 101, [6, 3, 0], 0), (.iconst 1, [], 0), (.iadd, [], 0), (.putfield 101, [6, 3, 0], 0), (.aload_n 0, [], 0), (.getfield 101, [6, 3, 0], 0), (.iconst 1, [], 0), (.isub, [], 0), (.ireturn, [0], 0)])]
/-- MindReaders.signal(IIII)I -/
def zc_139 : List (Nat × List zE) := [(0, [(.iload_n 1, [], 0), (.ifCond .lt 8, [9], 0), (.iload_n 1, [], 0), (.iconst 4, [], 0), (.if_icmp .le 6, [12, 1, 1, 1, 1, 1], 0), (.nop, [9], 0)]),
  (9, [(.bipush (-102), [], 0), (.ireturn, [0], 0)]),
  (12, [(.aload_n 0, [], 0), (.getfield 12, [6, 0, 2], 0), (.iload_n 1, [], 0), (.iload_n 2, [], 0), (.invokevirtual 113, [130, 3, 1, 3, 5], 0), (.ifCond .ne 6, [27, 1, 1, 1, 1, 1], 0), (.bipush (-101), [], 0), (.ireturn, [0], 0)]),
  (27, [(.iload_n 3, [], 0), (.iconst 1, [], 0), (.if_icmp .lt 21, [50], 0), (.iload_n 3, [], 0), (.bipush 9, [], 0), (.if_icmp .gt 15, [50], 0), (.iload 4, [], 0), (.ifCond .lt 10, [50], 0), (.iload 4, [], 0), (.bipush 9, [], 0), (.if_icmp .le 6, [53, 1, 1, 1, 1, 1], 0), (.nop, [50], 0)]),
  (50, [(.bipush (-102), [], 0), (.ireturn, [0], 0)]),
  (53, [(.aload_n 0, [], 0), (.getfield 12, [6, 0, 2], 0), (.invokevirtual 117, [123, 1, 1, 1, 5], 0), (.bipush 8, [], 0), (.if_icmp .lt 6, [68, 1, 1, 1, 1, 1], 0), (.bipush (-104), [], 0), (.ireturn, [0], 0)]),
  (68, [(.aload_n 0, [], 0), (.getfield 12, [6, 0, 2], 0), (.iload_n 1, [], 0), (.iload_n 2, [], 0), (.iload_n 3, [], 0), (.iload 4, [], 0), (.invokevirtual 120, [125, 5, 0, 5, 5], 0), (.iconst 0, [], 0), (.istore 5, [], 0), (.nop, [83, 1, 0, 0, 0, 0, 1], 0)]),
  (83, [(.iload 5, [], 0), (.aload_n 0, [], 0), (.getfield 101, [6, 3, 0], 0), (.if_icmp .ge 31, [120, 1], 0), (.aload_n 0, [], 0), (.iload 5, [], 0), (.invokevirtual 124, [182, 2, 3, 2, 6], 0), (.astore 6, [], 0), (.aload 6, [], 0), (.ifnull 12, [114, 1, 0, 0, 0, 0, 1], 0), (.aload 6, [], 0), (.aload_n 0, [], 0), (.getfield 12, [6, 0, 2], 0), (.invokevirtual 109, [87, 2, 0, 3, 0], 0), (.nop, [114, 1, 0, 0, 0, 0, 1], 0)]),
  (114, [(.iinc 5 1, [], 0), (.goto (-34), [83, 1, 0, 0, 0, 0, 1], 0)]),
  (120, [(.aload_n 0, [], 0), (.getfield 12, [6, 0, 2], 0), (.invokevirtual 117, [123, 1, 1, 1, 5], 0), (.iconst 1, [], 0), (.isub, [], 0), (.ireturn, [0], 0)])]
/-- MindReaders.as(II)I -/
def zc_140 : List (Nat × List zE) := [(0, [(.aload_n 0, [], 0), (.getfield 12, [6, 0, 2], 0), (.iload_n 1, [], 0), (.invokevirtual 128, [124, 2, 1, 2, 5], 0), (.ifCond .ne 6, [14, 1, 1, 1], 0), (.bipush (-101), [], 0), (.ireturn, [0], 0)]),
  (14, [(.iload_n 2, [], 0), (.ifCond .lt 8, [23], 0), (.iload_n 2, [], 0), (.iconst 4, [], 0), (.if_icmp .le 6, [26, 1, 1, 1], 0), (.nop, [23], 0)]),
  (23, [(.bipush (-102), [], 0), (.ireturn, [0], 0)]),
  (26, [(.aload_n 0, [], 0), (.getfield 12, [6, 0, 2], 0), (.iload_n 1, [], 0), (.invokevirtual 132, [126, 2, 1, 3, 5], 0), (.istore_n 3, [], 0), (.iload_n 2, [], 0), (.iload_n 3, [], 0), (.if_icmp .eq 17, [54, 0, 1], 0), (.iload_n 2, [], 0), (.ifCond .eq 13, [54, 0, 1], 0), (.iload_n 2, [], 0), (.iconst 1, [], 0), (.if_icmp .ne 12, [58, 0, 1], 0), (.iload_n 3, [], 0), (.iconst 2, [], 0), (.if_icmp .ne 7, [58, 0, 1], 0), (.nop, [54, 0, 1], 0)]),
  (54, [(.iconst 1, [], 0), (.goto 4, [59, 0, 1], 0)]),
  (58, [(.iconst 0, [], 0), (.nop, [59, 0, 1], 0)]),
  (59, [(.istore 4, [], 0), (.iload 4, [], 0), (.ifCond .eq 7, [70], 0), (.iload_n 1, [], 0), (.goto 4, [71], 0)]),
  (70, [(.iconst (-1), [], 0), (.nop, [71], 0)]),
  (71, [(.ireturn, [0], 0)])]
/-- MindReaders.about(II)I -/
def zc_141 : List (Nat × List zE) := [(0, [(.aload_n 0, [], 0), (.getfield 12, [6, 0, 2], 0), (.iload_n 1, [], 0), (.invokevirtual 128, [124, 2, 1, 2, 5], 0), (.ifCond .ne 6, [14, 1, 1, 1], 0), (.bipush (-101), [], 0), (.ireturn, [0], 0)]),
  (14, [(.iload_n 2, [], 0), (.tableswitch 65 0 3 #[29, 38, 47, 56], [2, 80, 1, 1, 44, 53, 62, 71], 29)]),
  (44, [(.aload_n 0, [], 0), (.getfield 12, [6, 0, 2], 0), (.iload_n 1, [], 0), (.invokevirtual 132, [126, 2, 1, 3, 5], 0), (.ireturn, [0], 0)]),
  (53, [(.aload_n 0, [], 0), (.getfield 12, [6, 0, 2], 0), (.iload_n 1, [], 0), (.invokevirtual 135, [127, 2, 1, 2, 5], 0), (.ireturn, [0], 0)]),
  (62, [(.aload_n 0, [], 0), (.getfield 12, [6, 0, 2], 0), (.iload_n 1, [], 0), (.invokevirtual 138, [128, 2, 1, 3, 5], 0), (.ireturn, [0], 0)]),
  (71, [(.aload_n 0, [], 0), (.getfield 12, [6, 0, 2], 0), (.iload_n 1, [], 0), (.invokevirtual 141, [129, 2, 1, 3, 5], 0), (.ireturn, [0], 0)]),
  (80, [(.bipush (-102), [], 0), (.ireturn, [0], 0)])]
/-- MindReaders.thing(I)I -/
def zc_142 : List (Nat × List zE) := [(0, [(.iload_n 1, [], 0), (.invokestatic 144, [179, 1, 1, 1], 0), (.ifCond .ne 6, [10, 1, 1], 0), (.bipush (-102), [], 0), (.ireturn, [0], 0)]),
  (10, [(.aload_n 0, [], 0), (.getfield 21, [6, 1, 2], 0), (.invokevirtual 77, [106, 1, 1, 1, 3], 0), (.bipush 8, [], 0), (.if_icmp .lt 6, [25, 1, 1], 0), (.bipush (-104), [], 0), (.ireturn, [0], 0)]),
  (25, [(.aload_n 0, [], 0), (.getfield 21, [6, 1, 2], 0), (.iload_n 1, [], 0), (.invokevirtual 85, [109, 2, 0, 2, 3], 0), (.aload_n 0, [], 0), (.getfield 21, [6, 1, 2], 0), (.invokevirtual 77, [106, 1, 1, 1, 3], 0), (.iconst 1, [], 0), (.isub, [], 0), (.ireturn, [0], 0)])]
/-- MindReaders.weigh(II)I -/
def zc_143 : List (Nat × List zE) := [(0, [(.aload_n 0, [], 0), (.iload_n 1, [], 0), (.invokevirtual 147, [181, 2, 1, 2, 6], 0), (.ifCond .ne 6, [11, 1, 1, 1], 0), (.bipush (-101), [], 0), (.ireturn, [0], 0)]),
  (11, [(.iload_n 2, [], 0), (.invokestatic 144, [179, 1, 1, 1], 0), (.ifCond .ne 6, [21, 1, 1, 1], 0), (.bipush (-102), [], 0), (.ireturn, [0], 0)]),
  (21, [(.aload_n 0, [], 0), (.getfield 21, [6, 1, 2], 0), (.iload_n 1, [], 0), (.invokevirtual 94, [107, 2, 1, 2, 3], 0), (.istore_n 3, [], 0), (.aload_n 0, [], 0), (.getfield 21, [6, 1, 2], 0), (.iload_n 1, [], 0), (.iload_n 2, [], 0), (.invokevirtual 150, [108, 3, 0, 3, 3], 0), (.iload_n 3, [], 0), (.ireturn, [0], 0)])]
/-- MindReaders.speech(III)I -/
def zc_144 : List (Nat × List zE) := [(0, [(.aload_n 0, [], 0), (.iload_n 1, [], 0), (.invokevirtual 124, [182, 2, 3, 2, 6], 0), (.astore 4, [], 0), (.aload 4, [], 0), (.ifnull 16, [25], 0), (.iload_n 2, [], 0), (.ifCond .lt 12, [25], 0), (.iload_n 2, [], 0), (.aload 4, [], 0), (.invokevirtual 153, [83, 1, 1, 1, 0], 0), (.if_icmp .lt 6, [28, 1, 0, 1, 1, 1], 0), (.nop, [25], 0)]),
  (25, [(.bipush (-101), [], 0), (.ireturn, [0], 0)]),
  (28, [(.iload_n 3, [], 0), (.ifCond .ne 13, [42, 1, 0, 1, 1, 1], 0), (.aload 4, [], 0), (.iload_n 2, [], 0), (.invokevirtual 154, [84, 2, 3, 2, 0], 0), (.invokevirtual 77, [106, 1, 1, 1, 3], 0), (.ireturn, [0], 0)]),
  (42, [(.iload_n 3, [], 0), (.iconst 1, [], 0), (.if_icmp .lt 21, [65, 1, 0, 1, 1, 1], 0), (.iload_n 3, [], 0), (.iconst 5, [], 0), (.if_icmp .gt 16, [65, 1, 0, 1, 1, 1], 0), (.aload 4, [], 0), (.iload_n 2, [], 0), (.invokevirtual 154, [84, 2, 3, 2, 0], 0), (.iload_n 3, [], 0), (.iconst 1, [], 0), (.isub, [], 0), (.invokevirtual 94, [107, 2, 1, 2, 3], 0), (.ireturn, [0], 0)]),
  (65, [(.iload_n 3, [], 0), (.bipush 10, [], 0), (.if_icmp .ne 13, [81, 1, 0, 1, 1, 1], 0), (.aload 4, [], 0), (.iload_n 2, [], 0), (.invokevirtual 158, [85, 2, 3, 2, 0], 0), (.invokevirtual 77, [106, 1, 1, 1, 3], 0), (.ireturn, [0], 0)]),
  (81, [(.iload_n 3, [], 0), (.bipush 10, [], 0), (.if_icmp .le 23, [107, 1, 0, 1, 1, 1], 0), (.iload_n 3, [], 0), (.bipush 20, [], 0), (.if_icmp .gt 17, [107, 1, 0, 1, 1, 1], 0), (.aload 4, [], 0), (.iload_n 2, [], 0), (.invokevirtual 158, [85, 2, 3, 2, 0], 0), (.iload_n 3, [], 0), (.bipush 11, [], 0), (.isub, [], 0), (.invokevirtual 94, [107, 2, 1, 2, 3], 0), (.ireturn, [0], 0)]),
  (107, [(.iload_n 3, [], 0), (.bipush 30, [], 0), (.if_icmp .ne 13, [123], 0), (.aload_n 0, [], 0), (.aload 4, [], 0), (.iload_n 2, [], 0), (.invokevirtual 161, [184, 3, 1, 3, 6], 0), (.goto 5, [125], 0)]),
  (123, [(.bipush (-102), [], 0), (.nop, [125], 0)]),
  (125, [(.ireturn, [0], 0)])]
/-- MindReaders.means(I)I -/
def zc_145 : List (Nat × List zE) := [(0, [(.aload_n 0, [], 0), (.iload_n 1, [], 0), (.invokevirtual 124, [182, 2, 3, 2, 6], 0), (.astore_n 2, [], 0), (.aload_n 2, [], 0), (.ifnonnull 6, [13, 1, 0, 1], 0), (.bipush (-101), [], 0), (.ireturn, [0], 0)]),
  (13, [(.aload_n 0, [], 0), (.invokevirtual 165, [178, 1, 1, 1, 6], 0), (.ifCond .eq 14, [31], 0), (.aload_n 2, [], 0), (.aload_n 0, [], 0), (.getfield 50, [6, 10, 2], 0), (.invokevirtual 169, [88, 2, 1, 3, 0], 0), (.goto 5, [33], 0)]),
  (31, [(.bipush (-103), [], 0), (.nop, [33], 0)]),
  (33, [(.ireturn, [0], 0)])]
/-- MindReaders.clear(II)I -/
def zc_146 : List (Nat × List zE) := [(0, [(.aload_n 0, [], 0), (.iload_n 1, [], 0), (.invokevirtual 124, [182, 2, 3, 2, 6], 0), (.astore_n 3, [], 0), (.aload_n 3, [], 0), (.ifnonnull 6, [13, 0, 0, 1, 1], 0), (.bipush (-101), [], 0), (.ireturn, [0], 0)]),
  (13, [(.iload_n 2, [], 0), (.ifCond .lt 8, [22], 0), (.iload_n 2, [], 0), (.iconst 2, [], 0), (.if_icmp .le 6, [25, 0, 0, 1, 1], 0), (.nop, [22], 0)]),
  (22, [(.bipush (-102), [], 0), (.ireturn, [0], 0)]),
  (25, [(.aload_n 3, [], 0), (.invokevirtual 173, [89, 1, 1, 3, 0], 0), (.istore 4, [], 0), (.iload_n 2, [], 0), (.ifCond .ne 15, [47, 0, 0, 1, 0, 1], 0), (.iload 4, [], 0), (.iconst (-1), [], 0), (.if_icmp .ne 7, [45], 0), (.iconst 1, [], 0), (.goto 4, [46], 0)]),
  (45, [(.iconst 0, [], 0), (.nop, [46], 0)]),
  (46, [(.ireturn, [0], 0)]),
  (47, [(.iload 4, [], 0), (.iload_n 2, [], 0), (.iconst 1, [], 0), (.isub, [], 0), (.invokestatic 176, [185, 2, 1, 2], 0), (.ireturn, [0], 0)])]
/-- MindReaders.starts(II)I -/
def zc_147 : List (Nat × List zE) := [(0, [(.aload_n 0, [], 0), (.iload_n 1, [], 0), (.invokevirtual 124, [182, 2, 3, 2, 6], 0), (.astore_n 3, [], 0), (.aload_n 3, [], 0), (.ifnonnull 6, [13, 0, 0, 1, 1], 0), (.bipush (-101), [], 0), (.ireturn, [0], 0)]),
  (13, [(.iload_n 2, [], 0), (.ifCond .lt 8, [22], 0), (.iload_n 2, [], 0), (.iconst 1, [], 0), (.if_icmp .le 6, [25, 0, 0, 1, 1], 0), (.nop, [22], 0)]),
  (22, [(.bipush (-102), [], 0), (.ireturn, [0], 0)]),
  (25, [(.aload_n 3, [], 0), (.invokevirtual 180, [90, 1, 1, 3, 0], 0), (.iload_n 2, [], 0), (.invokestatic 176, [185, 2, 1, 2], 0), (.ireturn, [0], 0)])]
/-- MindReaders.twice(I)I -/
def zc_148 : List (Nat × List zE) := [(0, [(.aload_n 0, [], 0), (.iload_n 1, [], 0), (.invokevirtual 124, [182, 2, 3, 2, 6], 0), (.astore_n 2, [], 0), (.aload_n 2, [], 0), (.ifnonnull 8, [15, 1, 0, 1], 0), (.bipush (-101), [], 0), (.goto 11, [23], 0)]),
  (15, [(.aload_n 0, [], 0), (.getfield 68, [6, 13, 2], 0), (.aload_n 2, [], 0), (.invokevirtual 183, [101, 2, 1, 4, 2], 0), (.nop, [23], 0)]),
  (23, [(.ireturn, [0], 0)])]
/-- MindReaders.mean(II)I -/
def zc_149 : List (Nat × List zE) := [(0, [(.aload_n 0, [], 0), (.iload_n 1, [], 0), (.invokevirtual 124, [182, 2, 3, 2, 6], 0), (.astore_n 3, [], 0), (.aload_n 3, [], 0), (.ifnonnull 6, [13, 1, 0, 1, 1], 0), (.bipush (-101), [], 0), (.ireturn, [0], 0)]),
  (13, [(.iload_n 2, [], 0), (.invokestatic 187, [180, 1, 1, 1], 0), (.ifCond .ne 6, [23, 1, 0, 1, 1], 0), (.bipush (-102), [], 0), (.ireturn, [0], 0)]),
  (23, [(.aload_n 0, [], 0), (.aload_n 3, [], 0), (.invokevirtual 190, [183, 2, 1, 2, 6], 0), (.istore 4, [], 0), (.iload 4, [], 0), (.ifCond .ne 6, [38, 1, 0, 1, 1, 1], 0), (.bipush (-103), [], 0), (.ireturn, [0], 0)]),
  (38, [(.lconst 0, [], 0), (.lstore 5, [], 0), (.iconst 0, [], 0), (.istore 7, [], 0), (.nop, [44, 1, 0, 1, 1, 1, 1, 0, 1], 0)]),
  (44, [(.iload 7, [], 0), (.iload 4, [], 0), (.if_icmp .ge 32, [80, 1, 0, 1, 0, 1, 1], 0), (.lload 5, [], 0), (.aload_n 0, [], 0), (.getfield 21, [6, 1, 2], 0), (.iload 7, [], 0), (.invokevirtual 94, [107, 2, 1, 2, 3], 0), (.aload_n 0, [], 0), (.aload_n 3, [], 0), (.iload 7, [], 0), (.invokevirtual 161, [184, 3, 1, 3, 6], 0), (.imul, [], 0), (.i2l, [], 0), (.ladd, [], 0), (.lstore 5, [], 0), (.iinc 7 1, [], 0), (.goto (-33), [44, 1, 0, 1, 1, 1, 1, 0, 1], 0)]),
  (80, [(.lload 5, [], 0), (.aload_n 0, [], 0), (.getfield 21, [6, 1, 2], 0), (.iload 4, [], 0), (.invokevirtual 193, [117, 2, 1, 4, 3], 0), (.i2l, [], 0), (.iload_n 2, [], 0), (.invokestatic 196, [197, 3, 2, 12], 0), (.l2i, [], 0), (.ireturn, [0], 0)])]
/-- MindReaders.oddness(I)I -/
def zc_150 : List (Nat × List zE) := [(0, [(.aload_n 0, [], 0), (.iload_n 1, [], 0), (.invokevirtual 124, [182, 2, 3, 2, 6], 0), (.astore_n 2, [], 0), (.aload_n 2, [], 0), (.ifnonnull 6, [13, 1, 0, 1], 0), (.bipush (-101), [], 0), (.ireturn, [0], 0)]),
  (13, [(.aload_n 0, [], 0), (.aload_n 2, [], 0), (.invokevirtual 190, [183, 2, 1, 2, 6], 0), (.istore_n 3, [], 0), (.iconst 0, [], 0), (.istore 4, [], 0), (.iconst 0, [], 0), (.istore 5, [], 0), (.nop, [25, 1, 0, 1, 1, 1, 1], 0)]),
  (25, [(.iload 5, [], 0), (.iload_n 3, [], 0), (.if_icmp .ge 37, [65, 0, 0, 0, 0, 1], 0), (.iload 4, [], 0), (.aload_n 0, [], 0), (.getfield 21, [6, 1, 2], 0), (.iload 5, [], 0), (.invokevirtual 94, [107, 2, 1, 2, 3], 0), (.aload_n 0, [], 0), (.getfield 12, [6, 0, 2], 0), (.aload_n 2, [], 0), (.iload 5, [], 0), (.invokevirtual 154, [84, 2, 3, 2, 0], 0), (.invokevirtual 200, [132, 2, 1, 4, 5], 0), (.imul, [], 0), (.iadd, [], 0), (.istore 4, [], 0), (.iinc 5 1, [], 0), (.goto (-37), [25, 1, 0, 1, 1, 1, 1], 0)]),
  (65, [(.iload 4, [], 0), (.ireturn, [0], 0)])]
/-- MindReaders.dealt(II)I -/
def zc_151 : List (Nat × List zE) := [(0, [(.aload_n 0, [], 0), (.iload_n 1, [], 0), (.invokevirtual 124, [182, 2, 3, 2, 6], 0), (.astore_n 3, [], 0), (.aload_n 3, [], 0), (.ifnonnull 6, [13, 1, 0, 1, 1], 0), (.bipush (-101), [], 0), (.ireturn, [0], 0)]),
  (13, [(.iload_n 2, [], 0), (.invokestatic 187, [180, 1, 1, 1], 0), (.ifCond .ne 18, [35, 1, 0, 1, 1], 0), (.iload_n 2, [], 0), (.bipush 10, [], 0), (.if_icmp .lt 9, [32], 0), (.iload_n 2, [], 0), (.bipush 18, [], 0), (.if_icmp .lt 6, [35, 1, 0, 1, 1], 0), (.nop, [32], 0)]),
  (32, [(.bipush (-102), [], 0), (.ireturn, [0], 0)]),
  (35, [(.aload_n 0, [], 0), (.aload_n 3, [], 0), (.invokevirtual 190, [183, 2, 1, 2, 6], 0), (.istore 4, [], 0), (.iload 4, [], 0), (.ifCond .ne 6, [50, 1, 0, 1, 1, 1], 0), (.bipush (-103), [], 0), (.ireturn, [0], 0)]),
  (50, [(.iload_n 2, [], 0), (.bipush 10, [], 0), (.if_icmp .lt 13, [66, 1, 0, 1, 1, 1], 0), (.aload_n 0, [], 0), (.aload_n 3, [], 0), (.iload_n 2, [], 0), (.bipush 10, [], 0), (.isub, [], 0), (.invokevirtual 203, [186, 3, 1, 6, 6], 0), (.ireturn, [0], 0)]),
  (66, [(.lconst 0, [], 0), (.lstore 5, [], 0), (.iconst 0, [], 0), (.istore 7, [], 0), (.nop, [72, 1, 0, 1, 1, 1, 1, 0, 1], 0)]),
  (72, [(.iload 7, [], 0), (.iload 4, [], 0), (.if_icmp .ge 37, [113, 1, 0, 1, 0, 1, 1], 0), (.lload 5, [], 0), (.aload_n 0, [], 0), (.getfield 21, [6, 1, 2], 0), (.iload 7, [], 0), (.invokevirtual 94, [107, 2, 1, 2, 3], 0), (.aload_n 0, [], 0), (.aload_n 3, [], 0), (.aload_n 0, [], 0), (.aload_n 3, [], 0), (.iload 7, [], 0), (.invokevirtual 203, [186, 3, 1, 6, 6], 0), (.invokevirtual 161, [184, 3, 1, 3, 6], 0), (.imul, [], 0), (.i2l, [], 0), (.ladd, [], 0), (.lstore 5, [], 0), (.iinc 7 1, [], 0), (.goto (-38), [72, 1, 0, 1, 1, 1, 1, 0, 1], 0)]),
  (113, [(.lload 5, [], 0), (.aload_n 0, [], 0), (.getfield 21, [6, 1, 2], 0), (.iload 4, [], 0), (.invokevirtual 193, [117, 2, 1, 4, 3], 0), (.i2l, [], 0), (.iload_n 2, [], 0), (.invokestatic 196, [197, 3, 2, 12], 0), (.l2i, [], 0), (.ireturn, [0], 0)])]
/-- MindReaders.shortest(II)I -/
def zc_152 : List (Nat × List zE) := [(0, [(.iload_n 1, [], 0), (.iconst 2, [], 0), (.if_icmp .lt 16, [18], 0), (.iload_n 1, [], 0), (.bipush 8, [], 0), (.if_icmp .gt 10, [18], 0), (.iload_n 2, [], 0), (.invokestatic 187, [180, 1, 1, 1], 0), (.ifCond .ne 6, [21, 1, 1, 1], 0), (.nop, [18], 0)]),
  (18, [(.bipush (-102), [], 0), (.ireturn, [0], 0)]),
  (21, [(.aload_n 0, [], 0), (.getfield 21, [6, 1, 2], 0), (.invokevirtual 77, [106, 1, 1, 1, 3], 0), (.ifCond .ne 6, [34, 1, 1, 1], 0), (.bipush (-103), [], 0), (.ireturn, [0], 0)]),
  (34, [(.aload_n 0, [], 0), (.iload_n 1, [], 0), (.invokevirtual 206, [191, 2, 2, 8, 6], 0), (.aload_n 0, [], 0), (.getfield 21, [6, 1, 2], 0), (.aload_n 0, [], 0), (.getfield 21, [6, 1, 2], 0), (.invokevirtual 77, [106, 1, 1, 1, 3], 0), (.invokevirtual 193, [117, 2, 1, 4, 3], 0), (.i2l, [], 0), (.iload_n 2, [], 0), (.invokestatic 196, [197, 3, 2, 12], 0), (.l2i, [], 0), (.ireturn, [0], 0)])]
/-- MindReaders.apart(I)I -/
def zc_153 : List (Nat × List zE) := [(0, [(.aload_n 0, [], 0), (.iload_n 1, [], 0), (.invokevirtual 124, [182, 2, 3, 2, 6], 0), (.astore_n 2, [], 0), (.aload_n 2, [], 0), (.ifnonnull 8, [15, 0, 0, 1], 0), (.bipush (-101), [], 0), (.goto 7, [19], 0)]),
  (15, [(.aload_n 2, [], 0), (.invokevirtual 210, [91, 1, 1, 5, 0], 0), (.nop, [19], 0)]),
  (19, [(.ireturn, [0], 0)])]
/-- MindReaders.named(I)I -/
def zc_154 : List (Nat × List zE) := [(0, [(.aload_n 0, [], 0), (.iload_n 1, [], 0), (.invokevirtual 124, [182, 2, 3, 2, 6], 0), (.astore_n 2, [], 0), (.aload_n 2, [], 0), (.ifnonnull 6, [13, 1, 0, 1], 0), (.bipush (-101), [], 0), (.ireturn, [0], 0)]),
  (13, [(.aload_n 0, [], 0), (.invokevirtual 165, [178, 1, 1, 1, 6], 0), (.ifCond .eq 14, [31], 0), (.aload_n 2, [], 0), (.aload_n 0, [], 0), (.getfield 50, [6, 10, 2], 0), (.invokevirtual 213, [92, 2, 1, 6, 0], 0), (.goto 5, [33], 0)]),
  (31, [(.bipush (-103), [], 0), (.nop, [33], 0)]),
  (33, [(.ireturn, [0], 0)])]
/-- MindReaders.right(IIIII)J -/
def zc_155 : List (Nat × List zE) := [(0, [(.aload_n 0, [], 0), (.iload_n 1, [], 0), (.invokevirtual 124, [182, 2, 3, 2, 6], 0), (.astore 6, [], 0), (.aload 6, [], 0), (.ifnull 17, [26], 0), (.iload_n 2, [], 0), (.ifCond .lt 13, [26], 0), (.iload_n 2, [], 0), (.aload_n 0, [], 0), (.aload 6, [], 0), (.invokevirtual 190, [183, 2, 1, 2, 6], 0), (.if_icmp .lt 7, [30, 1, 0, 1, 1, 1, 1, 1], 0), (.nop, [26], 0)]),
  (26, [(.ldc2_w 216, [], -101), (.lreturn, [], 0)]),
  (30, [(.iload_n 3, [], 0), (.iconst 2, [], 0), (.if_icmp .lt 29, [61], 0), (.iload_n 3, [], 0), (.bipush 8, [], 0), (.if_icmp .gt 23, [61], 0), (.iload 4, [], 0), (.ifCond .lt 18, [61], 0), (.iload 4, [], 0), (.bipush 10, [], 0), (.if_icmp .gt 11, [61], 0), (.iload 5, [], 0), (.invokestatic 187, [180, 1, 1, 1], 0), (.ifCond .ne 7, [65, 1, 0, 1, 1, 1, 1, 1], 0), (.nop, [61], 0)]),
  (61, [(.ldc2_w 218, [], -102), (.lreturn, [], 0)]),
  (65, [(.aload 6, [], 0), (.iload_n 2, [], 0), (.invokevirtual 158, [85, 2, 3, 2, 0], 0), (.astore 7, [], 0), (.aload 7, [], 0), (.invokevirtual 77, [106, 1, 1, 1, 3], 0), (.iconst 4, [], 0), (.if_icmp .gt 12, [91], 0), (.aload 7, [], 0), (.iload_n 3, [], 0), (.invokevirtual 220, [116, 2, 1, 3, 3], 0), (.ifCond .ne 7, [95, 1, 0, 1, 1, 1, 1, 1, 1], 0), (.nop, [91], 0)]),
  (91, [(.ldc2_w 223, [], -103), (.lreturn, [], 0)]),
  (95, [(.aload_n 0, [], 0), (.aload 6, [], 0), (.iload_n 2, [], 0), (.iload_n 3, [], 0), (.iload 4, [], 0), (.invokevirtual 225, [192, 5, 2, 13, 6], 0), (.bipush 10, [], 0), (.iload_n 3, [], 0), (.iconst 1, [], 0), (.isub, [], 0), (.imul, [], 0), (.i2l, [], 0), (.aload 7, [], 0), (.invokevirtual 77, [106, 1, 1, 1, 3], 0), (.invokestatic 229, [196, 2, 2, 6], 0), (.iload 5, [], 0), (.invokestatic 196, [197, 3, 2, 12], 0), (.lreturn, [], 0)])]
/-- MindReaders.note(I)I -/
def zc_156 : List (Nat × List zE) := [(0, [(.aload_n 0, [], 0), (.iload_n 1, [], 0), (.invokevirtual 147, [181, 2, 1, 2, 6], 0), (.ifCond .ne 6, [11, 1, 1], 0), (.bipush (-101), [], 0), (.ireturn, [0], 0)]),
  (11, [(.aload_n 0, [], 0), (.invokevirtual 233, [177, 1, 1, 3, 6], 0), (.ifCond .eq 15, [30], 0), (.aload_n 0, [], 0), (.getfield 47, [6, 9, 2], 0), (.invokevirtual 77, [106, 1, 1, 1, 3], 0), (.bipush 8, [], 0), (.if_icmp .le 6, [33, 1, 1], 0), (.nop, [30], 0)]),
  (30, [(.bipush (-103), [], 0), (.ireturn, [0], 0)]),
  (33, [(.aload_n 0, [], 0), (.getfield 37, [6, 5, 2], 0), (.invokevirtual 236, [94, 1, 1, 1, 1], 0), (.bipush 10, [], 0), (.if_icmp .lt 6, [48, 1, 1], 0), (.bipush (-104), [], 0), (.ireturn, [0], 0)]),
  (48, [(.aload_n 0, [], 0), (.getfield 37, [6, 5, 2], 0), (.iload_n 1, [], 0), (.aload_n 0, [], 0), (.getfield 47, [6, 9, 2], 0), (.invokevirtual 237, [97, 3, 0, 3, 1], 0), (.aload_n 0, [], 0), (.getfield 31, [6, 4, 2], 0), (.invokevirtual 88, [111, 1, 0, 1, 3], 0), (.aload_n 0, [], 0), (.getfield 37, [6, 5, 2], 0), (.invokevirtual 236, [94, 1, 1, 1, 1], 0), (.ireturn, [0], 0)])]
/-- MindReaders.forget()I -/
def zc_157 : List (Nat × List zE) := [(0, [(.aload_n 0, [], 0), (.getfield 37, [6, 5, 2], 0), (.invokevirtual 236, [94, 1, 1, 1, 1], 0), (.istore_n 1, [], 0), (.aload_n 0, [], 0), (.getfield 37, [6, 5, 2], 0), (.invokevirtual 240, [98, 1, 0, 1, 1], 0), (.iload_n 1, [], 0), (.ireturn, [0], 0)])]
/-- MindReaders.which()I -/
def zc_158 : List (Nat × List zE) := [(0, [(.iconst 0, [], 0), (.istore_n 1, [], 0), (.iconst 0, [], 0), (.istore_n 2, [], 0), (.nop, [4, 1, 1, 1], 0)]),
  (4, [(.iload_n 2, [], 0), (.aload_n 0, [], 0), (.getfield 101, [6, 3, 0], 0), (.if_icmp .ge 38, [47, 0, 1], 0), (.aload_n 0, [], 0), (.iload_n 2, [], 0), (.invokevirtual 124, [182, 2, 3, 2, 6], 0), (.astore_n 3, [], 0), (.aload_n 3, [], 0), (.ifnull 22, [41, 1, 1, 1], 0), (.aload_n 0, [], 0), (.aload_n 3, [], 0), (.aload_n 3, [], 0), (.invokevirtual 153, [83, 1, 1, 1, 0], 0), (.iconst 0, [], 0), (.invokevirtual 241, [190, 4, 1, 6, 6], 0), (.ifCond .eq 9, [41, 1, 1, 1], 0), (.iload_n 1, [], 0), (.iconst 1, [], 0), (.iload_n 2, [], 0), (.ishl, [], 0), (.ior, [], 0), (.istore_n 1, [], 0), (.nop, [41, 1, 1, 1], 0)]),
  (41, [(.iinc 2 1, [], 0), (.goto (-40), [4, 1, 1, 1], 0)]),
  (47, [(.iload_n 1, [], 0), (.ireturn, [0], 0)])]
/-- MindReaders.step(II)I -/
def zc_159 : List (Nat × List zE) := [(0, [(.aload_n 0, [], 0), (.iload_n 1, [], 0), (.invokevirtual 124, [182, 2, 3, 2, 6], 0), (.astore_n 3, [], 0), (.aload_n 3, [], 0), (.ifnonnull 6, [13, 1, 0, 1, 1], 0), (.bipush (-101), [], 0), (.ireturn, [0], 0)]),
  (13, [(.iload_n 2, [], 0), (.ifCond .lt 9, [23], 0), (.iload_n 2, [], 0), (.bipush 99, [], 0), (.if_icmp .le 6, [26, 1, 0, 1, 1], 0), (.nop, [23], 0)]),
  (23, [(.bipush (-102), [], 0), (.ireturn, [0], 0)]),
  (26, [(.aload_n 0, [], 0), (.aload_n 3, [], 0), (.invokevirtual 190, [183, 2, 1, 2, 6], 0), (.istore 4, [], 0), (.iload 4, [], 0), (.ifCond .ne 6, [41, 1, 0, 1, 1, 1], 0), (.bipush (-103), [], 0), (.ireturn, [0], 0)]),
  (41, [(.iconst 0, [], 0), (.istore 5, [], 0), (.nop, [44, 1, 0, 1, 1, 1, 1], 0)]),
  (44, [(.iload 5, [], 0), (.bipush 7, [], 0), (.if_icmp .gt 26, [74], 0), (.aload_n 0, [], 0), (.aload_n 3, [], 0), (.iload 4, [], 0), (.iload 5, [], 0), (.iload_n 2, [], 0), (.imul, [], 0), (.invokevirtual 241, [190, 4, 1, 6, 6], 0), (.ifCond .eq 6, [68, 1, 0, 1, 1, 1, 1], 0), (.iload 5, [], 0), (.ireturn, [0], 0)]),
  (68, [(.iinc 5 1, [], 0), (.goto (-27), [44, 1, 0, 1, 1, 1, 1], 0)]),
  (74, [(.iconst (-1), [], 0), (.ireturn, [0], 0)])]
/-- MindReaders.seen(II)J -/
def zc_160 : List (Nat × List zE) := [(0, [(.iload_n 1, [], 0), (.iconst 1, [], 0), (.if_icmp .lt 16, [18], 0), (.iload_n 1, [], 0), (.bipush 6, [], 0), (.if_icmp .gt 10, [18], 0), (.iload_n 2, [], 0), (.invokestatic 187, [180, 1, 1, 1], 0), (.ifCond .ne 7, [22, 1, 1, 1], 0), (.nop, [18], 0)]),
  (18, [(.ldc2_w 218, [], -102), (.lreturn, [], 0)]),
  (22, [(.aload_n 0, [], 0), (.getfield 21, [6, 1, 2], 0), (.invokevirtual 77, [106, 1, 1, 1, 3], 0), (.ifCond .ne 7, [36, 1, 1, 1], 0), (.ldc2_w 223, [], -103), (.lreturn, [], 0)]),
  (36, [(.aload_n 0, [], 0), (.iload_n 1, [], 0), (.invokevirtual 245, [194, 2, 2, 8, 6], 0), (.aload_n 0, [], 0), (.getfield 21, [6, 1, 2], 0), (.aload_n 0, [], 0), (.getfield 21, [6, 1, 2], 0), (.invokevirtual 77, [106, 1, 1, 1, 3], 0), (.invokevirtual 193, [117, 2, 1, 4, 3], 0), (.i2l, [], 0), (.iload_n 1, [], 0), (.invokestatic 229, [196, 2, 2, 6], 0), (.iload_n 2, [], 0), (.invokestatic 196, [197, 3, 2, 12], 0), (.lreturn, [], 0)])]
/-- MindReaders.change(II)I -/
def zc_161 : List (Nat × List zE) := [(0, [(.aload_n 0, [], 0), (.iload_n 1, [], 0), (.invokevirtual 124, [182, 2, 3, 2, 6], 0), (.astore_n 3, [], 0), (.aload_n 0, [], 0), (.iload_n 2, [], 0), (.invokevirtual 124, [182, 2, 3, 2, 6], 0), (.astore 4, [], 0), (.aload_n 3, [], 0), (.ifnull 8, [22], 0), (.aload 4, [], 0), (.ifnonnull 6, [25, 1, 0, 0, 1, 1], 0), (.nop, [22], 0)]),
  (22, [(.bipush (-101), [], 0), (.ireturn, [0], 0)]),
  (25, [(.aload_n 0, [], 0), (.aload_n 3, [], 0), (.aload 4, [], 0), (.invokevirtual 248, [189, 3, 1, 5, 6], 0), (.ireturn, [0], 0)])]
/-- MindReaders.cheapest(I)I -/
def zc_162 : List (Nat × List zE) := [(0, [(.aload_n 0, [], 0), (.iload_n 1, [], 0), (.invokevirtual 124, [182, 2, 3, 2, 6], 0), (.astore_n 2, [], 0), (.aload_n 2, [], 0), (.ifnonnull 6, [13, 1, 1, 1], 0), (.bipush (-101), [], 0), (.ireturn, [0], 0)]),
  (13, [(.iconst (-1), [], 0), (.istore_n 3, [], 0), (.iconst 0, [], 0), (.istore 4, [], 0), (.iconst 0, [], 0), (.istore 5, [], 0), (.nop, [21, 1, 1, 1, 1, 1, 1], 0)]),
  (21, [(.iload 5, [], 0), (.aload_n 0, [], 0), (.getfield 101, [6, 3, 0], 0), (.if_icmp .ge 59, [86, 0, 0, 0, 1], 0), (.aload_n 0, [], 0), (.iload 5, [], 0), (.invokevirtual 124, [182, 2, 3, 2, 6], 0), (.astore 6, [], 0), (.aload 6, [], 0), (.ifnull 40, [80, 1, 1, 1, 1, 1, 1], 0), (.iload 5, [], 0), (.iload_n 1, [], 0), (.if_icmp .ne 6, [52, 1, 1, 1, 1, 1, 1, 1], 0), (.goto 31, [80, 1, 1, 1, 1, 1, 1], 0)]),
  (52, [(.aload_n 0, [], 0), (.aload_n 2, [], 0), (.aload 6, [], 0), (.invokevirtual 248, [189, 3, 1, 5, 6], 0), (.istore 7, [], 0), (.iload_n 3, [], 0), (.iconst (-1), [], 0), (.if_icmp .eq 10, [73, 1, 1, 1, 0, 0, 1, 0, 1], 0), (.iload 7, [], 0), (.iload 4, [], 0), (.if_icmp .ge 10, [80, 1, 1, 1, 1, 1, 1], 0), (.nop, [73, 1, 1, 1, 0, 0, 1, 0, 1], 0)]),
  (73, [(.iload 5, [], 0), (.istore_n 3, [], 0), (.iload 7, [], 0), (.istore 4, [], 0), (.nop, [80, 1, 1, 1, 1, 1, 1], 0)]),
  (80, [(.iinc 5 1, [], 0), (.goto (-62), [21, 1, 1, 1, 1, 1, 1], 0)]),
  (86, [(.iload_n 3, [], 0), (.ireturn, [0], 0)])]
/-- MindReaders.luck(IIII)J -/
def zc_163 : List (Nat × List zE) := [(0, [(.iload_n 1, [], 0), (.iconst 1, [], 0), (.if_icmp .lt 37, [39], 0), (.iload_n 1, [], 0), (.bipush 12, [], 0), (.if_icmp .gt 31, [39], 0), (.iload_n 2, [], 0), (.iconst 2, [], 0), (.if_icmp .lt 26, [39], 0), (.iload_n 2, [], 0), (.bipush 9, [], 0), (.if_icmp .gt 20, [39], 0), (.iload_n 3, [], 0), (.ifCond .lt 16, [39], 0), (.iload_n 3, [], 0), (.iload_n 1, [], 0), (.if_icmp .gt 11, [39], 0), (.iload 4, [], 0), (.invokestatic 187, [180, 1, 1, 1], 0), (.ifCond .ne 7, [43, 0, 1, 1, 1, 1], 0), (.nop, [39], 0)]),
  (39, [(.ldc2_w 218, [], -102), (.lreturn, [], 0)]),
  (43, [(.lconst 0, [], 0), (.lstore 5, [], 0), (.iload_n 3, [], 0), (.istore 7, [], 0), (.nop, [49, 0, 1, 1, 0, 1, 1, 0, 1], 0)]),
  (49, [(.iload 7, [], 0), (.iload_n 1, [], 0), (.if_icmp .gt 32, [84, 0, 1, 1, 0, 1, 1], 0), (.lload 5, [], 0), (.iload_n 1, [], 0), (.iload 7, [], 0), (.invokestatic 252, [195, 2, 2, 5], 0), (.iload_n 2, [], 0), (.iconst 1, [], 0), (.isub, [], 0), (.i2l, [], 0), (.iload_n 1, [], 0), (.iload 7, [], 0), (.isub, [], 0), (.invokestatic 229, [196, 2, 2, 6], 0), (.lmul, [], 0), (.ladd, [], 0), (.lstore 5, [], 0), (.iinc 7 1, [], 0), (.goto (-32), [49, 0, 1, 1, 0, 1, 1, 0, 1], 0)]),
  (84, [(.lload 5, [], 0), (.iload_n 2, [], 0), (.i2l, [], 0), (.iload_n 1, [], 0), (.invokestatic 229, [196, 2, 2, 6], 0), (.iload 4, [], 0), (.invokestatic 196, [197, 3, 2, 12], 0), (.lreturn, [], 0)])]
/-- MindReaders.left(II)I -/
def zc_164 : List (Nat × List zE) := [(0, [(.aload_n 0, [], 0), (.iload_n 1, [], 0), (.invokevirtual 124, [182, 2, 3, 2, 6], 0), (.astore_n 3, [], 0), (.aload_n 3, [], 0), (.ifnonnull 6, [13, 1, 0, 1, 1], 0), (.bipush (-101), [], 0), (.ireturn, [0], 0)]),
  (13, [(.iload_n 2, [], 0), (.ifCond .lt 10, [24], 0), (.iload_n 2, [], 0), (.sipush 255, [], 0), (.if_icmp .le 6, [27, 1, 0, 1, 1], 0), (.nop, [24], 0)]),
  (24, [(.bipush (-102), [], 0), (.ireturn, [0], 0)]),
  (27, [(.aload_n 0, [], 0), (.aload_n 3, [], 0), (.iload_n 2, [], 0), (.bipush 8, [], 0), (.invokevirtual 256, [198, 4, 1, 8, 6], 0), (.ireturn, [0], 0)])]
/-- MindReaders.stop(I)I -/
def zc_165 : List (Nat × List zE) := [(0, [(.aload_n 0, [], 0), (.iload_n 1, [], 0), (.invokevirtual 124, [182, 2, 3, 2, 6], 0), (.astore_n 2, [], 0), (.aload_n 2, [], 0), (.ifnonnull 6, [13, 1, 0, 1], 0), (.bipush (-101), [], 0), (.ireturn, [0], 0)]),
  (13, [(.iconst 0, [], 0), (.istore_n 3, [], 0), (.nop, [15, 1, 0, 1, 1], 0)]),
  (15, [(.iload_n 3, [], 0), (.bipush 8, [], 0), (.if_icmp .ge 50, [68], 0), (.iconst 0, [], 0), (.istore 4, [], 0), (.nop, [24, 1, 0, 1, 1, 1], 0)]),
  (24, [(.iload 4, [], 0), (.sipush 255, [], 0), (.if_icmp .gt 33, [62, 1, 0, 1, 1], 0), (.iload 4, [], 0), (.invokestatic 260, [199, 1, 1, 1], 0), (.iload_n 3, [], 0), (.if_icmp .ne 18, [56, 1, 0, 1, 1, 1], 0), (.aload_n 0, [], 0), (.aload_n 2, [], 0), (.iload 4, [], 0), (.iconst 2, [], 0), (.invokevirtual 256, [198, 4, 1, 8, 6], 0), (.iconst 1, [], 0), (.if_icmp .gt 6, [56, 1, 0, 1, 1, 1], 0), (.iload 4, [], 0), (.ireturn, [0], 0)]),
  (56, [(.iinc 4 1, [], 0), (.goto (-35), [24, 1, 0, 1, 1, 1], 0)]),
  (62, [(.iinc 3 1, [], 0), (.goto (-50), [15, 1, 0, 1, 1], 0)]),
  (68, [(.sipush 255, [], 0), (.ireturn, [0], 0)])]
/-- MindReaders.image()I -/
def zc_166 : List (Nat × List zE) := [(0, [(.aload_n 0, [], 0), (.getfield 41, [6, 6, 2], 0), (.aload_n 0, [], 0), (.getfield 21, [6, 1, 2], 0), (.invokevirtual 265, [112, 2, 0, 3, 3], 0), (.aload_n 0, [], 0), (.getfield 44, [6, 7, 2], 0), (.aload_n 0, [], 0), (.getfield 37, [6, 5, 2], 0), (.invokevirtual 268, [99, 2, 0, 3, 1], 0), (.aload_n 0, [], 0), (.iconst 1, [], 0), (.putfield 271, [6, 8, 3], 0), (.aload_n 0, [], 0), (.getfield 21, [6, 1, 2], 0), (.invokevirtual 77, [106, 1, 1, 1, 3], 0), (.ireturn, [0], 0)])]
/-- MindReaders.restore()I -/
def zc_167 : List (Nat × List zE) := [(0, [(.aload_n 0, [], 0), (.getfield 271, [6, 8, 0], 0), (.ifCond .ne 6, [10, 1], 0), (.bipush (-103), [], 0), (.ireturn, [0], 0)]),
  (10, [(.iconst 0, [], 0), (.istore_n 1, [], 0), (.nop, [12, 1, 1], 0)]),
  (12, [(.iload_n 1, [], 0), (.aload_n 0, [], 0), (.getfield 41, [6, 6, 2], 0), (.invokevirtual 77, [106, 1, 1, 1, 3], 0), (.if_icmp .ge 25, [45, 1], 0), (.aload_n 0, [], 0), (.getfield 21, [6, 1, 2], 0), (.iload_n 1, [], 0), (.aload_n 0, [], 0), (.getfield 41, [6, 6, 2], 0), (.iload_n 1, [], 0), (.invokevirtual 94, [107, 2, 1, 2, 3], 0), (.invokevirtual 150, [108, 3, 0, 3, 3], 0), (.iinc 1 1, [], 0), (.goto (-30), [12, 1, 1], 0)]),
  (45, [(.aload_n 0, [], 0), (.getfield 37, [6, 5, 2], 0), (.aload_n 0, [], 0), (.getfield 44, [6, 7, 2], 0), (.invokevirtual 268, [99, 2, 0, 3, 1], 0), (.aload_n 0, [], 0), (.getfield 21, [6, 1, 2], 0), (.invokevirtual 77, [106, 1, 1, 1, 3], 0), (.ireturn, [0], 0)])]
/-- MindReaders.count(I)I -/
def zc_168 : List (Nat × List zE) := [(0, [(.iload_n 1, [], 0), (.tableswitch 91 0 5 #[39, 47, 55, 60, 68, 76], [1, 92, 1, 40, 48, 56, 61, 69, 77], 39)]),
  (40, [(.aload_n 0, [], 0), (.getfield 12, [6, 0, 2], 0), (.invokevirtual 117, [123, 1, 1, 1, 5], 0), (.ireturn, [0], 0)]),
  (48, [(.aload_n 0, [], 0), (.getfield 21, [6, 1, 2], 0), (.invokevirtual 77, [106, 1, 1, 1, 3], 0), (.ireturn, [0], 0)]),
  (56, [(.aload_n 0, [], 0), (.getfield 101, [6, 3, 0], 0), (.ireturn, [0], 0)]),
  (61, [(.aload_n 0, [], 0), (.getfield 37, [6, 5, 2], 0), (.invokevirtual 236, [94, 1, 1, 1, 1], 0), (.ireturn, [0], 0)]),
  (69, [(.aload_n 0, [], 0), (.getfield 31, [6, 4, 2], 0), (.invokevirtual 77, [106, 1, 1, 1, 3], 0), (.ireturn, [0], 0)]),
  (77, [(.aload_n 0, [], 0), (.getfield 21, [6, 1, 2], 0), (.aload_n 0, [], 0), (.getfield 21, [6, 1, 2], 0), (.invokevirtual 77, [106, 1, 1, 1, 3], 0), (.invokevirtual 193, [117, 2, 1, 4, 3], 0), (.ireturn, [0], 0)]),
  (92, [(.bipush (-102), [], 0), (.ireturn, [0], 0)])]
/-- MindReaders.digest()J -/
def zc_169 : List (Nat × List zE) := [(0, [(.ldc2_w 275, [], 479), (.lstore_n 1, [], 0), (.iconst 0, [], 0), (.istore_n 3, [], 0), (.nop, [6, 1, 1, 0, 1], 0)]),
  (6, [(.iload_n 3, [], 0), (.aload_n 0, [], 0), (.getfield 12, [6, 0, 2], 0), (.invokevirtual 117, [123, 1, 1, 1, 5], 0), (.if_icmp .ge 37, [51, 1, 1], 0), (.iconst 0, [], 0), (.istore 4, [], 0), (.nop, [20, 1, 1, 0, 1, 1], 0)]),
  (20, [(.iload 4, [], 0), (.iconst 3, [], 0), (.if_icmp .gt 22, [45, 1, 1, 0, 1], 0), (.lload_n 1, [], 0), (.aload_n 0, [], 0), (.iload_n 3, [], 0), (.iload 4, [], 0), (.invokevirtual 277, [141, 3, 1, 3, 6], 0), (.i2l, [], 0), (.invokestatic 280, [170, 2, 2, 4], 0), (.lstore_n 1, [], 0), (.iinc 4 1, [], 0), (.goto (-22), [20, 1, 1, 0, 1, 1], 0)]),
  (45, [(.iinc 3 1, [], 0), (.goto (-42), [6, 1, 1, 0, 1], 0)]),
  (51, [(.lload_n 1, [], 0), (.aload_n 0, [], 0), (.getfield 21, [6, 1, 2], 0), (.invokestatic 284, [171, 2, 2, 6], 0), (.lstore_n 1, [], 0), (.iconst 0, [], 0), (.istore_n 3, [], 0), (.nop, [62, 1, 1, 0, 1], 0)]),
  (62, [(.iload_n 3, [], 0), (.aload_n 0, [], 0), (.getfield 101, [6, 3, 0], 0), (.if_icmp .ge 30, [97, 1, 1], 0), (.aload_n 0, [], 0), (.iload_n 3, [], 0), (.invokevirtual 124, [182, 2, 3, 2, 6], 0), (.astore 4, [], 0), (.aload 4, [], 0), (.ifnull 12, [91, 1, 1, 0, 1], 0), (.aload_n 0, [], 0), (.lload_n 1, [], 0), (.iload_n 3, [], 0), (.aload 4, [], 0), (.invokevirtual 288, [172, 4, 2, 9, 6], 0), (.lstore_n 1, [], 0), (.nop, [91, 1, 1, 0, 1], 0)]),
  (91, [(.iinc 3 1, [], 0), (.goto (-32), [62, 1, 1, 0, 1], 0)]),
  (97, [(.iconst 0, [], 0), (.istore_n 3, [], 0), (.nop, [99, 1, 1, 0, 1], 0)]),
  (99, [(.iload_n 3, [], 0), (.aload_n 0, [], 0), (.getfield 37, [6, 5, 2], 0), (.invokevirtual 236, [94, 1, 1, 1, 1], 0), (.if_icmp .ge 53, [160, 1, 1], 0), (.lload_n 1, [], 0), (.aload_n 0, [], 0), (.getfield 37, [6, 5, 2], 0), (.iload_n 3, [], 0), (.invokevirtual 292, [95, 2, 1, 2, 1], 0), (.i2l, [], 0), (.invokestatic 280, [170, 2, 2, 4], 0), (.lstore_n 1, [], 0), (.lload_n 1, [], 0), (.aload_n 0, [], 0), (.getfield 37, [6, 5, 2], 0), (.iload_n 3, [], 0), (.invokevirtual 295, [96, 2, 3, 2, 1], 0), (.invokevirtual 77, [106, 1, 1, 1, 3], 0), (.i2l, [], 0), (.invokestatic 280, [170, 2, 2, 4], 0), (.lstore_n 1, [], 0), (.lload_n 1, [], 0), (.aload_n 0, [], 0), (.getfield 37, [6, 5, 2], 0), (.iload_n 3, [], 0), (.invokevirtual 295, [96, 2, 3, 2, 1], 0), (.invokestatic 284, [171, 2, 2, 6], 0), (.lstore_n 1, [], 0), (.iinc 3 1, [], 0), (.goto (-58), [99, 1, 1, 0, 1], 0)]),
  (160, [(.lload_n 1, [], 0), (.aload_n 0, [], 0), (.invokevirtual 298, [158, 1, 1, 4, 6], 0), (.i2l, [], 0), (.invokestatic 280, [170, 2, 2, 4], 0), (.lstore_n 1, [], 0), (.lload_n 1, [], 0), (.aload_n 0, [], 0), (.getfield 31, [6, 4, 2], 0), (.invokestatic 284, [171, 2, 2, 6], 0), (.lstore_n 1, [], 0), (.iconst 0, [], 0), (.istore_n 3, [], 0), (.nop, [181, 1, 1, 0, 1], 0)]),
  (181, [(.iload_n 3, [], 0), (.iconst 5, [], 0), (.if_icmp .gt 20, [203, 0, 1], 0), (.lload_n 1, [], 0), (.aload_n 0, [], 0), (.iload_n 3, [], 0), (.invokevirtual 301, [168, 2, 1, 2, 6], 0), (.i2l, [], 0), (.invokestatic 280, [170, 2, 2, 4], 0), (.lstore_n 1, [], 0), (.iinc 3 1, [], 0), (.goto (-19), [181, 1, 1, 0, 1], 0)]),
  (203, [(.lload_n 1, [], 0), (.lreturn, [], 0)])]
/-- MindReaders.mix(JJ)J -/
def zc_170 : List (Nat × List zE) := [(0, [(.ldc2_w 304, [], 31), (.lload_n 0, [], 0), (.lmul, [], 0), (.lload_n 2, [], 0), (.ladd, [], 0), (.lreturn, [], 0)])]
/-- MindReaders.mixRow(JLMindReaders$Row;)J -/
def zc_171 : List (Nat × List zE) := [(0, [(.lload_n 0, [], 0), (.lstore_n 3, [], 0), (.iconst 0, [], 0), (.istore 5, [], 0), (.nop, [5, 0, 0, 1, 1, 0, 1], 0)]),
  (5, [(.iload 5, [], 0), (.aload_n 2, [], 0), (.invokevirtual 77, [106, 1, 1, 1, 3], 0), (.if_icmp .ge 21, [32, 0, 0, 0, 1], 0), (.lload_n 3, [], 0), (.aload_n 2, [], 0), (.iload 5, [], 0), (.invokevirtual 94, [107, 2, 1, 2, 3], 0), (.i2l, [], 0), (.invokestatic 280, [170, 2, 2, 4], 0), (.lstore_n 3, [], 0), (.iinc 5 1, [], 0), (.goto (-24), [5, 0, 0, 1, 1, 0, 1], 0)]),
  (32, [(.lload_n 3, [], 0), (.lreturn, [], 0)])]
/-- MindReaders.mixCode(JILMindReaders$Code;)J -/
def zc_172 : List (Nat × List zE) := [(0, [(.lload_n 1, [], 0), (.lstore 5, [], 0), (.iconst 0, [], 0), (.istore 7, [], 0), (.nop, [6, 1, 0, 0, 1, 1, 1, 0, 1], 0)]),
  (6, [(.iload 7, [], 0), (.aload 4, [], 0), (.invokevirtual 153, [83, 1, 1, 1, 0], 0), (.if_icmp .ge 75, [88, 1, 0, 0, 1, 1, 1], 0), (.iconst 0, [], 0), (.istore 8, [], 0), (.nop, [19, 1, 0, 0, 1, 1, 1, 0, 1, 1], 0)]),
  (19, [(.iload 8, [], 0), (.iconst 5, [], 0), (.if_icmp .gt 26, [48, 1, 0, 0, 1, 1, 1, 0, 1], 0), (.lload 5, [], 0), (.aload_n 0, [], 0), (.iload_n 3, [], 0), (.iload 7, [], 0), (.iload 8, [], 0), (.invokevirtual 306, [144, 4, 1, 5, 6], 0), (.i2l, [], 0), (.invokestatic 280, [170, 2, 2, 4], 0), (.lstore 5, [], 0), (.iinc 8 1, [], 0), (.goto (-26), [19, 1, 0, 0, 1, 1, 1, 0, 1, 1], 0)]),
  (48, [(.lload 5, [], 0), (.aload_n 0, [], 0), (.iload_n 3, [], 0), (.iload 7, [], 0), (.bipush 10, [], 0), (.invokevirtual 306, [144, 4, 1, 5, 6], 0), (.i2l, [], 0), (.invokestatic 280, [170, 2, 2, 4], 0), (.lstore 5, [], 0), (.lload 5, [], 0), (.aload_n 0, [], 0), (.iload_n 3, [], 0), (.iload 7, [], 0), (.bipush 30, [], 0), (.invokevirtual 306, [144, 4, 1, 5, 6], 0), (.i2l, [], 0), (.invokestatic 280, [170, 2, 2, 4], 0), (.lstore 5, [], 0), (.iinc 7 1, [], 0), (.goto (-79), [6, 1, 0, 0, 1, 1, 1, 0, 1], 0)]),
  (88, [(.lload 5, [], 0), (.aload_n 0, [], 0), (.iload_n 3, [], 0), (.iconst 0, [], 0), (.invokevirtual 310, [146, 3, 1, 5, 6], 0), (.i2l, [], 0), (.invokestatic 280, [170, 2, 2, 4], 0), (.lstore 5, [], 0), (.lload 5, [], 0), (.aload_n 0, [], 0), (.getfield 68, [6, 13, 2], 0), (.aload 4, [], 0), (.invokevirtual 183, [101, 2, 1, 4, 2], 0), (.i2l, [], 0), (.invokestatic 280, [170, 2, 2, 4], 0), (.lstore 5, [], 0), (.lload 5, [], 0), (.aload_n 0, [], 0), (.iload_n 3, [], 0), (.invokevirtual 313, [150, 2, 1, 6, 6], 0), (.i2l, [], 0), (.invokestatic 280, [170, 2, 2, 4], 0), (.lstore 5, [], 0), (.lload 5, [], 0), (.aload_n 0, [], 0), (.iload_n 3, [], 0), (.invokevirtual 316, [153, 2, 1, 3, 6], 0), (.i2l, [], 0), (.invokestatic 280, [170, 2, 2, 4], 0), (.lstore 5, [], 0), (.lload 5, [], 0), (.aload_n 0, [], 0), (.iload_n 3, [], 0), (.invokevirtual 319, [165, 2, 1, 5, 6], 0), (.i2l, [], 0), (.invokestatic 280, [170, 2, 2, 4], 0), (.lreturn, [], 0)])]
/-- MindReaders.byteOf(JI)I -/
def zc_173 : List (Nat × List zE) := [(0, [(.lload_n 0, [], 0), (.bipush 8, [], 0), (.iload_n 2, [], 0), (.imul, [], 0), (.lushr, [], 0), (.ldc2_w 322, [], 255), (.land, [], 0), (.l2i, [], 0), (.ireturn, [0], 0)])]
/-- MindReaders.lettersIn(J)I -/
def zc_174 : List (Nat × List zE) := [(0, [(.iconst 0, [], 0), (.istore_n 2, [], 0), (.iconst 0, [], 0), (.istore_n 3, [], 0), (.nop, [4, 1, 0, 1, 1], 0)]),
  (4, [(.iload_n 3, [], 0), (.bipush 8, [], 0), (.if_icmp .ge 43, [50, 0, 0, 1], 0), (.lload_n 0, [], 0), (.iload_n 3, [], 0), (.invokestatic 81, [173, 2, 1, 3], 0), (.istore 4, [], 0), (.iload 4, [], 0), (.bipush 126, [], 0), (.if_icmp .gt 13, [34], 0), (.iload 4, [], 0), (.ifCond .eq 10, [36, 1, 0, 1, 1, 1], 0), (.iload_n 2, [], 0), (.iload_n 3, [], 0), (.if_icmp .ge 5, [36, 1, 0, 1, 1, 1], 0), (.nop, [34], 0)]),
  (34, [(.iconst (-1), [], 0), (.ireturn, [0], 0)]),
  (36, [(.iload 4, [], 0), (.ifCond .eq 6, [44, 1, 0, 1, 1], 0), (.iinc 2 1, [], 0), (.nop, [44, 1, 0, 1, 1], 0)]),
  (44, [(.iinc 3 1, [], 0), (.goto (-43), [4, 1, 0, 1, 1], 0)]),
  (50, [(.iload_n 2, [], 0), (.ireturn, [0], 0)])]
/-- MindReaders.signalOf(I)I -/
def zc_175 : List (Nat × List zE) := [(0, [(.iload_n 0, [], 0), (.bipush 97, [], 0), (.if_icmp .lt 16, [19], 0), (.iload_n 0, [], 0), (.bipush 104, [], 0), (.if_icmp .gt 10, [19], 0), (.iload_n 0, [], 0), (.bipush 97, [], 0), (.isub, [], 0), (.goto 4, [20], 0)]),
  (19, [(.iconst (-1), [], 0), (.nop, [20], 0)]),
  (20, [(.ireturn, [0], 0)])]
/-- MindReaders.firstFault()I -/
def zc_176 : List (Nat × List zE) := [(0, [(.iconst 0, [], 0), (.istore_n 1, [], 0), (.iconst 0, [], 0), (.istore_n 2, [], 0), (.iconst 0, [], 0), (.istore_n 3, [], 0), (.nop, [6, 1, 1, 1, 1], 0)]),
  (6, [(.iload_n 3, [], 0), (.aload_n 0, [], 0), (.getfield 31, [6, 4, 2], 0), (.invokevirtual 77, [106, 1, 1, 1, 3], 0), (.if_icmp .ge 66, [80, 1], 0), (.aload_n 0, [], 0), (.getfield 31, [6, 4, 2], 0), (.iload_n 3, [], 0), (.invokevirtual 94, [107, 2, 1, 2, 3], 0), (.istore 4, [], 0), (.iload 4, [], 0), (.invokestatic 98, [175, 1, 1, 1], 0), (.iconst (-1), [], 0), (.if_icmp .eq 14, [47, 1, 1, 1, 1, 1], 0), (.iload_n 2, [], 0), (.iconst 5, [], 0), (.if_icmp .ge 9, [47, 1, 1, 1, 1, 1], 0), (.iinc 2 1, [], 0), (.goto 30, [74, 1, 1, 1, 1], 0)]),
  (47, [(.iload 4, [], 0), (.bipush 44, [], 0), (.if_icmp .ne 21, [72, 0, 0, 0, 1], 0), (.iload_n 2, [], 0), (.ifCond .le 17, [72, 0, 0, 0, 1], 0), (.iload_n 1, [], 0), (.bipush 7, [], 0), (.if_icmp .ge 11, [72, 0, 0, 0, 1], 0), (.iinc 1 1, [], 0), (.iconst 0, [], 0), (.istore_n 2, [], 0), (.goto 5, [74, 1, 1, 1, 1], 0)]),
  (72, [(.iload_n 3, [], 0), (.ireturn, [0], 0)]),
  (74, [(.iinc 3 1, [], 0), (.goto (-71), [6, 1, 1, 1, 1], 0)]),
  (80, [(.aload_n 0, [], 0), (.getfield 31, [6, 4, 2], 0), (.invokevirtual 77, [106, 1, 1, 1, 3], 0), (.ireturn, [0], 0)])]
/-- MindReaders.readPage()Z -/
def zc_177 : List (Nat × List zE) := [(0, [(.aload_n 0, [], 0), (.getfield 47, [6, 9, 2], 0), (.invokevirtual 88, [111, 1, 0, 1, 3], 0), (.iconst 0, [], 0), (.istore_n 1, [], 0), (.nop, [9, 1, 1], 0)]),
  (9, [(.iload_n 1, [], 0), (.aload_n 0, [], 0), (.getfield 31, [6, 4, 2], 0), (.invokevirtual 77, [106, 1, 1, 1, 3], 0), (.if_icmp .ge 36, [53], 0), (.aload_n 0, [], 0), (.getfield 31, [6, 4, 2], 0), (.iload_n 1, [], 0), (.invokevirtual 94, [107, 2, 1, 2, 3], 0), (.invokestatic 98, [175, 1, 1, 1], 0), (.istore_n 2, [], 0), (.iload_n 2, [], 0), (.iconst (-1), [], 0), (.if_icmp .ne 5, [39, 1, 1, 1], 0), (.iconst 0, [], 0), (.ireturn, [1], 0)]),
  (39, [(.aload_n 0, [], 0), (.getfield 47, [6, 9, 2], 0), (.iload_n 2, [], 0), (.invokevirtual 85, [109, 2, 0, 2, 3], 0), (.iinc 1 1, [], 0), (.goto (-41), [9, 1, 1], 0)]),
  (53, [(.iconst 1, [], 0), (.ireturn, [1], 0)])]
/-- MindReaders.hearPage()Z -/
def zc_178 : List (Nat × List zE) := [(0, [(.aload_n 0, [], 0), (.invokevirtual 233, [177, 1, 1, 3, 6], 0), (.ifCond .ne 5, [9, 1], 0), (.iconst 0, [], 0), (.ireturn, [1], 0)]),
  (9, [(.aload_n 0, [], 0), (.getfield 12, [6, 0, 2], 0), (.aload_n 0, [], 0), (.getfield 47, [6, 9, 2], 0), (.iconst 0, [], 0), (.aload_n 0, [], 0), (.getfield 50, [6, 10, 2], 0), (.invokevirtual 324, [133, 4, 0, 7, 5], 0), (.iconst 1, [], 0), (.ireturn, [1], 0)])]
/-- MindReaders.isWeight(I)Z -/
def zc_179 : List (Nat × List zE) := [(0, [(.iload_n 0, [], 0), (.iconst 1, [], 0), (.if_icmp .lt 13, [15], 0), (.iload_n 0, [], 0), (.bipush 99, [], 0), (.if_icmp .gt 7, [15], 0), (.iconst 1, [], 0), (.goto 4, [16], 0)]),
  (15, [(.iconst 0, [], 0), (.nop, [16], 0)]),
  (16, [(.ireturn, [1], 0)])]
/-- MindReaders.isPart(I)Z -/
def zc_180 : List (Nat × List zE) := [(0, [(.iload_n 0, [], 0), (.ifCond .eq 8, [9], 0), (.iload_n 0, [], 0), (.iconst 1, [], 0), (.if_icmp .ne 7, [13], 0), (.nop, [9], 0)]),
  (9, [(.iconst 1, [], 0), (.goto 4, [14], 0)]),
  (13, [(.iconst 0, [], 0), (.nop, [14], 0)]),
  (14, [(.ireturn, [1], 0)])]
/-- MindReaders.isThing(I)Z -/
def zc_181 : List (Nat × List zE) := [(0, [(.iload_n 1, [], 0), (.ifCond .lt 18, [19], 0), (.iload_n 1, [], 0), (.aload_n 0, [], 0), (.getfield 21, [6, 1, 2], 0), (.invokevirtual 77, [106, 1, 1, 1, 3], 0), (.if_icmp .ge 7, [19], 0), (.iconst 1, [], 0), (.goto 4, [20], 0)]),
  (19, [(.iconst 0, [], 0), (.nop, [20], 0)]),
  (20, [(.ireturn, [1], 0)])]
/-- MindReaders.codeAt(I)LMindReaders$Code; -/
def zc_182 : List (Nat × List zE) := [(0, [(.iload_n 1, [], 0), (.ifCond .lt 29, [30], 0), (.iload_n 1, [], 0), (.aload_n 0, [], 0), (.getfield 101, [6, 3, 0], 0), (.if_icmp .ge 21, [30], 0), (.iload_n 1, [], 0), (.aload_n 0, [], 0), (.getfield 27, [6, 2, 2], 0), (.arraylength, [], 0), (.if_icmp .ge 12, [30], 0), (.aload_n 0, [], 0), (.getfield 27, [6, 2, 2], 0), (.iload_n 1, [], 0), (.aaload, [102], 0), (.goto 4, [31], 0)]),
  (30, [(.aconst_null, [], 0), (.nop, [31], 0)]),
  (31, [(.areturn, [], 0)])]
/-- MindReaders.thingsSaid(LMindReaders$Code;)I -/
def zc_183 : List (Nat × List zE) := [(0, [(.aload_n 1, [], 0), (.invokevirtual 153, [83, 1, 1, 1, 0], 0), (.aload_n 0, [], 0), (.getfield 21, [6, 1, 2], 0), (.invokevirtual 77, [106, 1, 1, 1, 3], 0), (.invokestatic 327, [1], 0), (.ireturn, [0], 0)])]
/-- MindReaders.longOf(LMindReaders$Code;I)I -/
def zc_184 : List (Nat × List zE) := [(0, [(.aload_n 0, [], 0), (.getfield 12, [6, 0, 2], 0), (.aload_n 1, [], 0), (.iload_n 2, [], 0), (.invokevirtual 154, [84, 2, 3, 2, 0], 0), (.invokevirtual 332, [131, 2, 1, 4, 5], 0), (.ireturn, [0], 0)])]
/-- MindReaders.ofPair(II)I -/
def zc_185 : List (Nat × List zE) := [(0, [(.iload_n 0, [], 0), (.iconst (-1), [], 0), (.if_icmp .ne 5, [7, 1, 1], 0), (.iconst (-1), [], 0), (.ireturn, [0], 0)]),
  (7, [(.iload_n 1, [], 0), (.ifCond .ne 10, [18, 1], 0), (.iload_n 0, [], 0), (.bipush 8, [], 0), (.idiv, [], 0), (.goto 7, [22], 0)]),
  (18, [(.iload_n 0, [], 0), (.bipush 8, [], 0), (.irem, [], 0), (.nop, [22], 0)]),
  (22, [(.ireturn, [0], 0)])]
/-- MindReaders.dealtTo(LMindReaders$Code;I)I -/
def zc_186 : List (Nat × List zE) := [(0, [(.aload_n 0, [], 0), (.aload_n 1, [], 0), (.invokevirtual 190, [183, 2, 1, 2, 6], 0), (.istore_n 3, [], 0), (.iload_n 2, [], 0), (.ifCond .lt 8, [15], 0), (.iload_n 2, [], 0), (.iload_n 3, [], 0), (.if_icmp .lt 5, [17, 1, 1, 1, 1], 0), (.nop, [15], 0)]),
  (15, [(.iconst (-1), [], 0), (.ireturn, [0], 0)]),
  (17, [(.iconst 0, [], 0), (.istore 4, [], 0), (.iconst 0, [], 0), (.istore 5, [], 0), (.nop, [23, 1, 1, 1, 1, 1, 1], 0)]),
  (23, [(.iload 5, [], 0), (.iload_n 3, [], 0), (.if_icmp .ge 40, [66, 1, 1, 0, 1, 1], 0), (.aload_n 0, [], 0), (.getfield 21, [6, 1, 2], 0), (.iload 5, [], 0), (.invokevirtual 94, [107, 2, 1, 2, 3], 0), (.ineg, [], 0), (.iload 5, [], 0), (.aload_n 0, [], 0), (.getfield 21, [6, 1, 2], 0), (.iload_n 2, [], 0), (.invokevirtual 94, [107, 2, 1, 2, 3], 0), (.ineg, [], 0), (.iload_n 2, [], 0), (.invokestatic 335, [188, 4, 1, 4], 0), (.ifCond .eq 6, [60, 1, 1, 1, 1, 1, 1], 0), (.iinc 4 1, [], 0), (.nop, [60, 1, 1, 1, 1, 1, 1], 0)]),
  (60, [(.iinc 5 1, [], 0), (.goto (-40), [23, 1, 1, 1, 1, 1, 1], 0)]),
  (66, [(.iconst 0, [], 0), (.istore 5, [], 0), (.nop, [69, 1, 1, 0, 1, 1, 1], 0)]),
  (69, [(.iload 5, [], 0), (.iload_n 3, [], 0), (.if_icmp .ge 25, [97], 0), (.aload_n 0, [], 0), (.aload_n 1, [], 0), (.iload 5, [], 0), (.iload_n 3, [], 0), (.invokevirtual 339, [187, 4, 1, 6, 6], 0), (.iload 4, [], 0), (.if_icmp .ne 6, [91, 1, 1, 0, 1, 1, 1], 0), (.iload 5, [], 0), (.ireturn, [0], 0)]),
  (91, [(.iinc 5 1, [], 0), (.goto (-25), [69, 1, 1, 0, 1, 1, 1], 0)]),
  (97, [(.iconst (-1), [], 0), (.ireturn, [0], 0)])]
/-- MindReaders.rankByLong(LMindReaders$Code;II)I -/
def zc_187 : List (Nat × List zE) := [(0, [(.iconst 0, [], 0), (.istore 4, [], 0), (.iconst 0, [], 0), (.istore 5, [], 0), (.nop, [6, 1, 1, 1, 1, 1, 1], 0)]),
  (6, [(.iload 5, [], 0), (.iload_n 3, [], 0), (.if_icmp .ge 34, [43, 0, 0, 0, 0, 1], 0), (.aload_n 0, [], 0), (.aload_n 1, [], 0), (.iload 5, [], 0), (.invokevirtual 161, [184, 3, 1, 3, 6], 0), (.iload 5, [], 0), (.aload_n 0, [], 0), (.aload_n 1, [], 0), (.iload_n 2, [], 0), (.invokevirtual 161, [184, 3, 1, 3, 6], 0), (.iload_n 2, [], 0), (.invokestatic 335, [188, 4, 1, 4], 0), (.ifCond .eq 6, [37, 1, 1, 1, 1, 1, 1], 0), (.iinc 4 1, [], 0), (.nop, [37, 1, 1, 1, 1, 1, 1], 0)]),
  (37, [(.iinc 5 1, [], 0), (.goto (-34), [6, 1, 1, 1, 1, 1, 1], 0)]),
  (43, [(.iload 4, [], 0), (.ireturn, [0], 0)])]
/-- MindReaders.isAhead(IIII)Z -/
def zc_188 : List (Nat × List zE) := [(0, [(.iload_n 0, [], 0), (.iload_n 2, [], 0), (.if_icmp .lt 13, [15], 0), (.iload_n 0, [], 0), (.iload_n 2, [], 0), (.if_icmp .ne 12, [19], 0), (.iload_n 1, [], 0), (.iload_n 3, [], 0), (.if_icmp .ge 7, [19], 0), (.nop, [15], 0)]),
  (15, [(.iconst 1, [], 0), (.goto 4, [20], 0)]),
  (19, [(.iconst 0, [], 0), (.nop, [20], 0)]),
  (20, [(.ireturn, [1], 0)])]
/-- MindReaders.changeOf(LMindReaders$Code;LMindReaders$Code;)I -/
def zc_189 : List (Nat × List zE) := [(0, [(.iconst 0, [], 0), (.istore_n 3, [], 0), (.iconst 0, [], 0), (.istore 4, [], 0), (.nop, [5, 1, 1, 1, 1, 1], 0)]),
  (5, [(.iload 4, [], 0), (.aload_n 2, [], 0), (.invokevirtual 153, [83, 1, 1, 1, 0], 0), (.if_icmp .ge 46, [57, 0, 0, 0, 1], 0), (.iload 4, [], 0), (.aload_n 1, [], 0), (.invokevirtual 153, [83, 1, 1, 1, 0], 0), (.if_icmp .ge 21, [41, 1, 1, 1, 1, 1], 0), (.aload_n 1, [], 0), (.iload 4, [], 0), (.invokevirtual 154, [84, 2, 3, 2, 0], 0), (.aload_n 2, [], 0), (.iload 4, [], 0), (.invokevirtual 154, [84, 2, 3, 2, 0], 0), (.invokevirtual 342, [113, 2, 1, 2, 3], 0), (.ifCond .ne 13, [51, 1, 1, 1, 1, 1], 0), (.nop, [41, 1, 1, 1, 1, 1], 0)]),
  (41, [(.iload_n 3, [], 0), (.aload_n 0, [], 0), (.aload_n 2, [], 0), (.iload 4, [], 0), (.invokevirtual 161, [184, 3, 1, 3, 6], 0), (.iadd, [], 0), (.istore_n 3, [], 0), (.nop, [51, 1, 1, 1, 1, 1], 0)]),
  (51, [(.iinc 4 1, [], 0), (.goto (-49), [5, 1, 1, 1, 1, 1], 0)]),
  (57, [(.iload_n 3, [], 0), (.ireturn, [0], 0)])]
/-- MindReaders.notesLet(LMindReaders$Code;II)Z -/
def zc_190 : List (Nat × List zE) := [(0, [(.iconst 0, [], 0), (.istore 4, [], 0), (.nop, [3, 1, 1, 1, 1, 1], 0)]),
  (3, [(.iload 4, [], 0), (.aload_n 0, [], 0), (.getfield 37, [6, 5, 2], 0), (.invokevirtual 236, [94, 1, 1, 1, 1], 0), (.if_icmp .ge 76, [88], 0), (.aload_n 0, [], 0), (.getfield 37, [6, 5, 2], 0), (.iload 4, [], 0), (.invokevirtual 292, [95, 2, 1, 2, 1], 0), (.istore 5, [], 0), (.iload 5, [], 0), (.ifCond .lt 9, [37], 0), (.iload 5, [], 0), (.iload_n 2, [], 0), (.if_icmp .lt 5, [39, 1, 1, 1, 1, 1, 1], 0), (.nop, [37], 0)]),
  (37, [(.iconst 0, [], 0), (.ireturn, [1], 0)]),
  (39, [(.aload_n 0, [], 0), (.getfield 12, [6, 0, 2], 0), (.aload_n 0, [], 0), (.getfield 37, [6, 5, 2], 0), (.iload 4, [], 0), (.invokevirtual 295, [96, 2, 3, 2, 1], 0), (.iconst 0, [], 0), (.aload_n 0, [], 0), (.getfield 50, [6, 10, 2], 0), (.invokevirtual 324, [133, 4, 0, 7, 5], 0), (.aload_n 0, [], 0), (.getfield 50, [6, 10, 2], 0), (.aload_n 1, [], 0), (.iload 5, [], 0), (.iload_n 3, [], 0), (.iadd, [], 0), (.iload_n 2, [], 0), (.irem, [], 0), (.invokevirtual 158, [85, 2, 3, 2, 0], 0), (.invokevirtual 342, [113, 2, 1, 2, 3], 0), (.ifCond .ne 5, [82, 1, 1, 1, 1, 1], 0), (.iconst 0, [], 0), (.ireturn, [1], 0)]),
  (82, [(.iinc 4 1, [], 0), (.goto (-82), [3, 1, 1, 1, 1, 1], 0)]),
  (88, [(.iconst 1, [], 0), (.ireturn, [1], 0)])]
/-- MindReaders.leastLong(I)J -/
def zc_191 : List (Nat × List zE) := [(0, [(.aload_n 0, [], 0), (.getfield 53, [6, 11, 2], 0), (.aload_n 0, [], 0), (.getfield 21, [6, 1, 2], 0), (.invokevirtual 265, [112, 2, 0, 3, 3], 0), (.aload_n 0, [], 0), (.getfield 53, [6, 11, 2], 0), (.invokevirtual 77, [106, 1, 1, 1, 3], 0), (.iconst 2, [], 0), (.if_icmp .lt 8, [27], 0), (.iload_n 1, [], 0), (.iconst 2, [], 0), (.if_icmp .ge 5, [29, 1, 1], 0), (.nop, [27], 0)]),
  (27, [(.lconst 0, [], 0), (.lreturn, [], 0)]),
  (29, [(.lconst 0, [], 0), (.lstore_n 2, [], 0), (.iconst 2, [], 0), (.aload_n 0, [], 0), (.getfield 53, [6, 11, 2], 0), (.invokevirtual 77, [106, 1, 1, 1, 3], 0), (.iconst 2, [], 0), (.isub, [], 0), (.iload_n 1, [], 0), (.iconst 1, [], 0), (.isub, [], 0), (.irem, [], 0), (.iadd, [], 0), (.istore 4, [], 0), (.iconst 0, [], 0), (.istore 5, [], 0), (.nop, [51, 1, 1, 1, 0, 1, 1], 0)]),
  (51, [(.iload 5, [], 0), (.bipush 8, [], 0), (.if_icmp .ge 69, [124, 0, 0, 1], 0), (.aload_n 0, [], 0), (.getfield 53, [6, 11, 2], 0), (.invokevirtual 77, [106, 1, 1, 1, 3], 0), (.iconst 1, [], 0), (.if_icmp .le 58, [124, 0, 0, 1], 0), (.iconst 0, [], 0), (.istore 6, [], 0), (.iconst 0, [], 0), (.istore 7, [], 0), (.nop, [75, 1, 1, 1, 0, 1, 1, 1, 1], 0)]),
  (75, [(.iload 7, [], 0), (.iload 4, [], 0), (.if_icmp .ge 21, [100, 1, 1, 1, 0, 0, 1, 1], 0), (.iload 6, [], 0), (.aload_n 0, [], 0), (.getfield 53, [6, 11, 2], 0), (.invokevirtual 346, [118, 1, 1, 3, 3], 0), (.iadd, [], 0), (.istore 6, [], 0), (.iinc 7 1, [], 0), (.goto (-22), [75, 1, 1, 1, 0, 1, 1, 1, 1], 0)]),
  (100, [(.aload_n 0, [], 0), (.getfield 53, [6, 11, 2], 0), (.iload 6, [], 0), (.invokevirtual 85, [109, 2, 0, 2, 3], 0), (.lload_n 2, [], 0), (.iload 6, [], 0), (.i2l, [], 0), (.ladd, [], 0), (.lstore_n 2, [], 0), (.iload_n 1, [], 0), (.istore 4, [], 0), (.iinc 5 1, [], 0), (.goto (-70), [51, 1, 1, 1, 0, 1, 1], 0)]),
  (124, [(.lload_n 2, [], 0), (.lreturn, [], 0)])]
/-- MindReaders.waysNamed(LMindReaders$Code;III)J -/
def zc_192 : List (Nat × List zE) := [(0, [(.aload_n 1, [], 0), (.iload_n 2, [], 0), (.invokevirtual 158, [85, 2, 3, 2, 0], 0), (.astore 5, [], 0), (.aload_n 0, [], 0), (.getfield 50, [6, 10, 2], 0), (.invokevirtual 88, [111, 1, 0, 1, 3], 0), (.iconst 0, [], 0), (.istore 6, [], 0), (.nop, [17, 1, 1, 1, 1, 1, 1, 1], 0)]),
  (17, [(.iload 6, [], 0), (.aload 5, [], 0), (.invokevirtual 77, [106, 1, 1, 1, 3], 0), (.if_icmp .ge 17, [41, 1, 1, 1, 1, 1, 1], 0), (.aload_n 0, [], 0), (.getfield 50, [6, 10, 2], 0), (.iconst 0, [], 0), (.invokevirtual 85, [109, 2, 0, 2, 3], 0), (.iinc 6 1, [], 0), (.goto (-21), [17, 1, 1, 1, 1, 1, 1, 1], 0)]),
  (41, [(.lconst 0, [], 0), (.lstore 6, [], 0), (.iload_n 3, [], 0), (.i2l, [], 0), (.aload 5, [], 0), (.invokevirtual 77, [106, 1, 1, 1, 3], 0), (.invokestatic 229, [196, 2, 2, 6], 0), (.lstore 8, [], 0), (.iconst 0, [], 0), (.istore 10, [], 0), (.nop, [59, 1, 1, 1, 1, 1, 1, 1, 0, 1, 0, 1], 0)]),
  (59, [(.iload 10, [], 0), (.i2l, [], 0), (.lload 8, [], 0), (.lcmp, [], 0), (.ifCond .ge 54, [119, 0, 0, 0, 0, 0, 0, 1], 0), (.aload_n 0, [], 0), (.aload 5, [], 0), (.iload_n 3, [], 0), (.iload 4, [], 0), (.invokevirtual 349, [193, 4, 2, 7, 6], 0), (.lstore 11, [], 0), (.lload 11, [], 0), (.lconst 0, [], 0), (.lcmp, [], 0), (.ifCond .le 22, [105, 1, 1, 1, 1, 1, 1, 1, 0, 1, 0, 1], 0), (.aload_n 1, [], 0), (.aload_n 0, [], 0), (.getfield 50, [6, 10, 2], 0), (.invokevirtual 213, [92, 2, 1, 6, 0], 0), (.iload_n 2, [], 0), (.if_icmp .ne 10, [105, 1, 1, 1, 1, 1, 1, 1, 0, 1, 0, 1], 0), (.lload 6, [], 0), (.lload 11, [], 0), (.ladd, [], 0), (.lstore 6, [], 0), (.nop, [105, 1, 1, 1, 1, 1, 1, 1, 0, 1, 0, 1], 0)]),
  (105, [(.aload_n 0, [], 0), (.getfield 50, [6, 10, 2], 0), (.iload_n 3, [], 0), (.invokevirtual 353, [119, 2, 0, 4, 3], 0), (.iinc 10 1, [], 0), (.goto (-57), [59, 1, 1, 1, 1, 1, 1, 1, 0, 1, 0, 1], 0)]),
  (119, [(.lload 6, [], 0), (.lreturn, [], 0)])]
/-- MindReaders.waysHeard(LMindReaders$Row;II)J -/
def zc_193 : List (Nat × List zE) := [(0, [(.lconst 1, [], 0), (.lstore 4, [], 0), (.iconst 0, [], 0), (.istore 6, [], 0), (.nop, [6, 1, 1, 1, 1, 1, 0, 1], 0)]),
  (6, [(.iload 6, [], 0), (.aload_n 1, [], 0), (.invokevirtual 77, [106, 1, 1, 1, 3], 0), (.if_icmp .ge 46, [58, 0, 0, 0, 0, 1], 0), (.lload 4, [], 0), (.aload_n 0, [], 0), (.getfield 50, [6, 10, 2], 0), (.iload 6, [], 0), (.invokevirtual 94, [107, 2, 1, 2, 3], 0), (.aload_n 1, [], 0), (.iload 6, [], 0), (.invokevirtual 94, [107, 2, 1, 2, 3], 0), (.if_icmp .ne 15, [47, 1, 1, 1, 1, 0, 0, 1], 0), (.bipush 10, [], 0), (.iload_n 3, [], 0), (.isub, [], 0), (.iload_n 2, [], 0), (.iconst 1, [], 0), (.isub, [], 0), (.imul, [], 0), (.i2l, [], 0), (.goto 5, [49, 1, 1, 1, 1, 0, 0, 1], 0)]),
  (47, [(.iload_n 3, [], 0), (.i2l, [], 0), (.nop, [49, 1, 1, 1, 1, 0, 0, 1], 0)]),
  (49, [(.lmul, [], 0), (.lstore 4, [], 0), (.iinc 6 1, [], 0), (.goto (-49), [6, 1, 1, 1, 1, 1, 0, 1], 0)]),
  (58, [(.lload 4, [], 0), (.lreturn, [], 0)])]
/-- MindReaders.waysAllSeen(I)J -/
def zc_194 : List (Nat × List zE) := [(0, [(.aload_n 0, [], 0), (.getfield 21, [6, 1, 2], 0), (.invokevirtual 77, [106, 1, 1, 1, 3], 0), (.istore_n 2, [], 0), (.iload_n 2, [], 0), (.iload_n 1, [], 0), (.if_icmp .le 5, [15, 1, 1, 1], 0), (.lconst 0, [], 0), (.lreturn, [], 0)]),
  (15, [(.lconst 0, [], 0), (.lstore_n 3, [], 0), (.iconst 0, [], 0), (.istore 5, [], 0), (.nop, [20, 1, 1, 1, 1, 0, 1], 0)]),
  (20, [(.iload 5, [], 0), (.iconst 1, [], 0), (.iload_n 2, [], 0), (.ishl, [], 0), (.if_icmp .ge 94, [119, 0, 0, 0, 1], 0), (.iconst 0, [], 0), (.istore 6, [], 0), (.iconst 0, [], 0), (.istore 7, [], 0), (.nop, [34, 1, 1, 1, 1, 0, 1, 1, 1], 0)]),
  (34, [(.iload 7, [], 0), (.iload_n 2, [], 0), (.if_icmp .ge 31, [68, 1, 1, 1, 1, 0, 1, 1], 0), (.iload 6, [], 0), (.iload 5, [], 0), (.iload 7, [], 0), (.ishr, [], 0), (.iconst 1, [], 0), (.iand, [], 0), (.aload_n 0, [], 0), (.getfield 21, [6, 1, 2], 0), (.iload 7, [], 0), (.invokevirtual 94, [107, 2, 1, 2, 3], 0), (.imul, [], 0), (.iadd, [], 0), (.istore 6, [], 0), (.iinc 7 1, [], 0), (.goto (-31), [34, 1, 1, 1, 1, 0, 1, 1, 1], 0)]),
  (68, [(.iload_n 2, [], 0), (.iload 5, [], 0), (.invokestatic 260, [199, 1, 1, 1], 0), (.isub, [], 0), (.iconst 2, [], 0), (.irem, [], 0), (.ifCond .ne 7, [84, 1, 1, 1, 1, 0, 1, 1], 0), (.iconst 1, [], 0), (.goto 4, [85, 1, 1, 1, 1, 0, 1, 1], 0)]),
  (84, [(.iconst 0, [], 0), (.nop, [85, 1, 1, 1, 1, 0, 1, 1], 0)]),
  (85, [(.istore 7, [], 0), (.lload_n 3, [], 0), (.iload 7, [], 0), (.ifCond .eq 13, [103, 1, 1, 1, 0, 0, 1, 1], 0), (.iload 6, [], 0), (.i2l, [], 0), (.iload_n 1, [], 0), (.invokestatic 229, [196, 2, 2, 6], 0), (.goto 11, [111, 1, 1, 1, 0, 0, 1], 0)]),
  (103, [(.iload 6, [], 0), (.i2l, [], 0), (.iload_n 1, [], 0), (.invokestatic 229, [196, 2, 2, 6], 0), (.lneg, [], 0), (.nop, [111, 1, 1, 1, 0, 0, 1], 0)]),
  (111, [(.ladd, [], 0), (.lstore_n 3, [], 0), (.iinc 5 1, [], 0), (.goto (-96), [20, 1, 1, 1, 1, 0, 1], 0)]),
  (119, [(.lload_n 3, [], 0), (.lreturn, [], 0)])]
/-- MindReaders.choices(II)J -/
def zc_195 : List (Nat × List zE) := [(0, [(.lconst 1, [], 0), (.lstore_n 2, [], 0), (.iconst 1, [], 0), (.istore 4, [], 0), (.nop, [5, 1, 1, 1, 0, 1], 0)]),
  (5, [(.iload 4, [], 0), (.iload_n 1, [], 0), (.if_icmp .gt 23, [31, 0, 0, 1], 0), (.lload_n 2, [], 0), (.iload_n 0, [], 0), (.iload_n 1, [], 0), (.isub, [], 0), (.iload 4, [], 0), (.iadd, [], 0), (.i2l, [], 0), (.lmul, [], 0), (.iload 4, [], 0), (.i2l, [], 0), (.ldiv, [], 0), (.lstore_n 2, [], 0), (.iinc 4 1, [], 0), (.goto (-23), [5, 1, 1, 1, 0, 1], 0)]),
  (31, [(.lload_n 2, [], 0), (.lreturn, [], 0)])]
/-- MindReaders.power(JI)J -/
def zc_196 : List (Nat × List zE) := [(0, [(.lconst 1, [], 0), (.lstore_n 3, [], 0), (.iconst 0, [], 0), (.istore 5, [], 0), (.nop, [5, 1, 0, 1, 1, 0, 1], 0)]),
  (5, [(.iload 5, [], 0), (.iload_n 2, [], 0), (.if_icmp .ge 13, [21, 0, 0, 0, 1], 0), (.lload_n 3, [], 0), (.lload_n 0, [], 0), (.lmul, [], 0), (.lstore_n 3, [], 0), (.iinc 5 1, [], 0), (.goto (-13), [5, 1, 0, 1, 1, 0, 1], 0)]),
  (21, [(.lload_n 3, [], 0), (.lreturn, [], 0)])]
/-- MindReaders.lowest(JJI)J -/
def zc_197 : List (Nat × List zE) := [(0, [(.lload_n 0, [], 0), (.lstore 5, [], 0), (.lload_n 2, [], 0), (.lstore 7, [], 0), (.iconst 0, [], 0), (.istore 9, [], 0), (.nop, [9, 1, 0, 1, 0, 1, 1, 0, 1, 0, 1], 0)]),
  (9, [(.iload 9, [], 0), (.sipush 128, [], 0), (.if_icmp .ge 31, [45, 1, 0, 1, 0, 1, 1], 0), (.lload 7, [], 0), (.lconst 0, [], 0), (.lcmp, [], 0), (.ifCond .eq 24, [45, 1, 0, 1, 0, 1, 1], 0), (.lload 5, [], 0), (.lload 7, [], 0), (.lrem, [], 0), (.lstore 10, [], 0), (.lload 7, [], 0), (.lstore 5, [], 0), (.lload 10, [], 0), (.lstore 7, [], 0), (.iinc 9 1, [], 0), (.goto (-33), [9, 1, 0, 1, 0, 1, 1, 0, 1, 0, 1], 0)]),
  (45, [(.lload 5, [], 0), (.lconst 0, [], 0), (.lcmp, [], 0), (.ifCond .ne 5, [54, 1, 0, 1, 0, 1, 1], 0), (.lconst 0, [], 0), (.lreturn, [], 0)]),
  (54, [(.iload 4, [], 0), (.ifCond .ne 10, [66, 0, 0, 1, 0, 0, 1], 0), (.lload_n 0, [], 0), (.lload 5, [], 0), (.ldiv, [], 0), (.goto 7, [70], 0)]),
  (66, [(.lload_n 2, [], 0), (.lload 5, [], 0), (.ldiv, [], 0), (.nop, [70], 0)]),
  (70, [(.lreturn, [], 0)])]
/-- MindReaders.unlike(LMindReaders$Code;II)I -/
def zc_198 : List (Nat × List zE) := [(0, [(.iconst 0, [], 0), (.istore 4, [], 0), (.iconst 0, [], 0), (.istore 5, [], 0), (.nop, [6, 1, 1, 1, 1, 1, 1], 0)]),
  (6, [(.iload 5, [], 0), (.aload_n 1, [], 0), (.invokevirtual 153, [83, 1, 1, 1, 0], 0), (.if_icmp .ge 101, [113, 0, 0, 0, 0, 1], 0), (.iload 4, [], 0), (.iload_n 3, [], 0), (.if_icmp .ge 95, [113, 0, 0, 0, 0, 1], 0), (.aload_n 0, [], 0), (.getfield 12, [6, 0, 2], 0), (.aload_n 1, [], 0), (.iload 5, [], 0), (.invokevirtual 154, [84, 2, 3, 2, 0], 0), (.iload_n 2, [], 0), (.aload_n 0, [], 0), (.getfield 61, [6, 12, 2], 0), (.iload 5, [], 0), (.invokevirtual 356, [121, 2, 3, 3, 4], 0), (.invokevirtual 324, [133, 4, 0, 7, 5], 0), (.iconst 1, [], 0), (.istore 6, [], 0), (.iconst 0, [], 0), (.istore 7, [], 0), (.nop, [50, 1, 1, 1, 1, 1, 1, 1, 1], 0)]),
  (50, [(.iload 7, [], 0), (.iload 5, [], 0), (.if_icmp .ge 45, [99, 1, 1, 1, 1, 1, 1, 1], 0), (.iload 6, [], 0), (.ifCond .eq 40, [99, 1, 1, 1, 1, 1, 1, 1], 0), (.aload_n 0, [], 0), (.getfield 61, [6, 12, 2], 0), (.iload 7, [], 0), (.invokevirtual 356, [121, 2, 3, 3, 4], 0), (.aload_n 0, [], 0), (.getfield 61, [6, 12, 2], 0), (.iload 5, [], 0), (.invokevirtual 356, [121, 2, 3, 3, 4], 0), (.invokevirtual 342, [113, 2, 1, 2, 3], 0), (.ifCond .ne 7, [90, 1, 1, 1, 1, 1, 1, 0, 1], 0), (.iconst 1, [], 0), (.goto 4, [91, 1, 1, 1, 1, 1, 1, 0, 1], 0)]),
  (90, [(.iconst 0, [], 0), (.nop, [91, 1, 1, 1, 1, 1, 1, 0, 1], 0)]),
  (91, [(.istore 6, [], 0), (.iinc 7 1, [], 0), (.goto (-46), [50, 1, 1, 1, 1, 1, 1, 1, 1], 0)]),
  (99, [(.iload 6, [], 0), (.ifCond .eq 6, [107, 1, 1, 1, 1, 1, 1], 0), (.iinc 4 1, [], 0), (.nop, [107, 1, 1, 1, 1, 1, 1], 0)]),
  (107, [(.iinc 5 1, [], 0), (.goto (-104), [6, 1, 1, 1, 1, 1, 1], 0)]),
  (113, [(.iload 4, [], 0), (.ireturn, [0], 0)])]
/-- java/lang/Integer.bitCount(I)I -/
def zc_199 : List (Nat × List zE) := [(0, [(.iload_n 0, [], 0), (.iload_n 0, [], 0), (.iconst 1, [], 0), (.iushr, [], 0), (.ldc_w 265, [], 1431655765), (.iand, [], 0), (.isub, [], 0), (.istore_n 0, [], 0), (.iload_n 0, [], 0), (.ldc_w 266, [], 858993459), (.iand, [], 0), (.iload_n 0, [], 0), (.iconst 2, [], 0), (.iushr, [], 0), (.ldc_w 266, [], 858993459), (.iand, [], 0), (.iadd, [], 0), (.istore_n 0, [], 0), (.iload_n 0, [], 0), (.iload_n 0, [], 0), (.iconst 4, [], 0), (.iushr, [], 0), (.iadd, [], 0), (.ldc_w 267, [], 252645135), (.iand, [], 0), (.istore_n 0, [], 0), (.iload_n 0, [], 0), (.iload_n 0, [], 0), (.bipush 8, [], 0), (.iushr, [], 0), (.iadd, [], 0), (.istore_n 0, [], 0), (.iload_n 0, [], 0), (.iload_n 0, [], 0), (.bipush 16, [], 0), (.iushr, [], 0), (.iadd, [], 0), (.istore_n 0, [], 0), (.iload_n 0, [], 0), (.bipush 63, [], 0), (.iand, [], 0), (.ireturn, [0], 0)])]
def zmtl : List zM := [(x, code, 4, ret, 10, 235),
  (⟨"MindReadersModel", "<init>", "()V"⟩, prog_9_method_1_code, 1, none, 1, 20),
  (⟨"MindReadersModel", "in", "(JJJ)Z"⟩, prog_9_method_2_code, 6, some .boolean, 0, 0),
  (⟨"MindReadersModel", "letters", "(J)I"⟩, prog_9_method_3_code, 9, some .int, 0, 0),
  (⟨"MindReadersModel", "blank", "()I"⟩, prog_9_method_4_code, 2, some .int, 0, 0),
  (⟨"MindReadersModel", "go", "(I)Z"⟩, prog_9_method_5_code, 3, some .boolean, 1, 25),
  (⟨"MindReadersModel", "faultOf", "()I"⟩, prog_9_method_6_code, 2, some .int, 2, 47),
  (⟨"MindReadersModel", "fault", "()I"⟩, prog_9_method_7_code, 1, some .int, 3, 68),
  (⟨"MindReadersModel", "code", "()I"⟩, prog_9_method_8_code, 2, some .int, 3, 68),
  (⟨"MindReadersModel", "isCode", "(I)Z"⟩, prog_9_method_9_code, 2, some .boolean, 1, 25),
  (⟨"MindReadersModel", "signal", "(IIII)I"⟩, prog_9_method_10_code, 6, some .int, 1, 25),
  (⟨"MindReadersModel", "isSignal", "(I)Z"⟩, prog_9_method_11_code, 2, some .boolean, 1, 25),
  (⟨"MindReadersModel", "as", "(II)I"⟩, prog_9_method_12_code, 5, some .int, 2, 46),
  (⟨"MindReadersModel", "about", "(II)I"⟩, prog_9_method_13_code, 3, some .int, 2, 46),
  (⟨"MindReadersModel", "thing", "(I)I"⟩, prog_9_method_14_code, 2, some .int, 1, 25),
  (⟨"MindReadersModel", "isThing", "(I)Z"⟩, prog_9_method_15_code, 2, some .boolean, 1, 25),
  (⟨"MindReadersModel", "weigh", "(II)I"⟩, prog_9_method_16_code, 4, some .int, 2, 46),
  (⟨"MindReadersModel", "kindOf", "(I)I"⟩, prog_9_method_17_code, 2, some .int, 2, 46),
  (⟨"MindReadersModel", "secondsOf", "(I)I"⟩, prog_9_method_18_code, 2, some .int, 2, 46),
  (⟨"MindReadersModel", "oddOf", "(I)I"⟩, prog_9_method_19_code, 2, some .int, 2, 46),
  (⟨"MindReadersModel", "stand", "(I)V"⟩, prog_9_method_20_code, 3, none, 3, 67),
  (⟨"MindReadersModel", "layPlain", "(III)V"⟩, prog_9_method_21_code, 6, none, 4, 89),
  (⟨"MindReadersModel", "layAll", "(II)V"⟩, prog_9_method_22_code, 5, none, 5, 114),
  (⟨"MindReadersModel", "longOf", "(II)I"⟩, prog_9_method_23_code, 6, some .int, 3, 67),
  (⟨"MindReadersModel", "speechOf", "(III)I"⟩, prog_9_method_24_code, 5, some .int, 5, 114),
  (⟨"MindReadersModel", "speech", "(III)I"⟩, prog_9_method_25_code, 4, some .int, 6, 138),
  (⟨"MindReadersModel", "isStart", "(III)Z"⟩, prog_9_method_26_code, 6, some .boolean, 0, 0),
  (⟨"MindReadersModel", "isAlike", "(II)Z"⟩, prog_9_method_27_code, 3, some .boolean, 1, 25),
  (⟨"MindReadersModel", "layPage", "()Z"⟩, prog_9_method_28_code, 3, some .boolean, 4, 89),
  (⟨"MindReadersModel", "differs", "(I)I"⟩, prog_9_method_29_code, 4, some .int, 0, 0),
  (⟨"MindReadersModel", "namedNow", "(I)I"⟩, prog_9_method_30_code, 6, some .int, 1, 23),
  (⟨"MindReadersModel", "means", "(I)I"⟩, prog_9_method_31_code, 3, some .int, 6, 138),
  (⟨"MindReadersModel", "alikeOf", "(I)I"⟩, prog_9_method_32_code, 4, some .int, 6, 138),
  (⟨"MindReadersModel", "clear", "(II)I"⟩, prog_9_method_33_code, 4, some .int, 7, 161),
  (⟨"MindReadersModel", "starts", "(II)I"⟩, prog_9_method_34_code, 7, some .int, 6, 138),
  (⟨"MindReadersModel", "goesOn", "(III)Z"⟩, prog_9_method_35_code, 8, some .boolean, 0, 0),
  (⟨"MindReadersModel", "reach", "(III)Z"⟩, prog_9_method_36_code, 5, some .boolean, 0, 0),
  (⟨"MindReadersModel", "reachBy", "(IIII)Z"⟩, prog_9_method_37_code, 7, some .boolean, 1, 24),
  (⟨"MindReadersModel", "twiceOf", "(I)I"⟩, prog_9_method_38_code, 10, some .int, 6, 138),
  (⟨"MindReadersModel", "twice", "(I)I"⟩, prog_9_method_39_code, 2, some .int, 7, 167),
  (⟨"MindReadersModel", "saidBy", "(I)I"⟩, prog_9_method_40_code, 2, some .int, 0, 0),
  (⟨"MindReadersModel", "common", "(JJ)J"⟩, prog_9_method_41_code, 10, some .long, 0, 0),
  (⟨"MindReadersModel", "term", "(JJI)J"⟩, prog_9_method_42_code, 7, some .long, 1, 29),
  (⟨"MindReadersModel", "isPart", "(I)Z"⟩, prog_9_method_43_code, 1, some .boolean, 1, 25),
  (⟨"MindReadersModel", "weighed", "(I)I"⟩, prog_9_method_44_code, 4, some .int, 0, 0),
  (⟨"MindReadersModel", "mean", "(II)I"⟩, prog_9_method_45_code, 6, some .int, 4, 92),
  (⟨"MindReadersModel", "oddnessOf", "(I)I"⟩, prog_9_method_46_code, 6, some .int, 3, 67),
  (⟨"MindReadersModel", "oddness", "(I)I"⟩, prog_9_method_47_code, 2, some .int, 4, 92),
  (⟨"MindReadersModel", "placeOf", "(II)I"⟩, prog_9_method_48_code, 5, some .int, 0, 0),
  (⟨"MindReadersModel", "speechAt", "(III)I"⟩, prog_9_method_49_code, 9, some .int, 4, 92),
  (⟨"MindReadersModel", "dealt", "(II)I"⟩, prog_9_method_50_code, 6, some .int, 5, 120),
  (⟨"MindReadersModel", "takeLeast", "(I)I"⟩, prog_9_method_51_code, 4, some .int, 0, 0),
  (⟨"MindReadersModel", "shortNow", "(I)I"⟩, prog_9_method_52_code, 7, some .int, 1, 23),
  (⟨"MindReadersModel", "shortest", "(II)I"⟩, prog_9_method_53_code, 3, some .int, 2, 55),
  (⟨"MindReadersModel", "apartOf", "(I)I"⟩, prog_9_method_54_code, 7, some .int, 6, 138),
  (⟨"MindReadersModel", "apart", "(I)I"⟩, prog_9_method_55_code, 2, some .int, 7, 164),
  (⟨"MindReadersModel", "named", "(I)I"⟩, prog_9_method_56_code, 2, some .int, 6, 138),
  (⟨"MindReadersModel", "isAmong", "(II)Z"⟩, prog_9_method_57_code, 5, some .boolean, 0, 0),
  (⟨"MindReadersModel", "right", "(IIIII)J"⟩, prog_9_method_58_code, 17, some .long, 6, 138),
  (⟨"MindReadersModel", "note", "(I)I"⟩, prog_9_method_59_code, 3, some .int, 5, 111),
  (⟨"MindReadersModel", "forget", "()I"⟩, prog_9_method_60_code, 2, some .int, 0, 0),
  (⟨"MindReadersModel", "isSaid", "(III)Z"⟩, prog_9_method_61_code, 5, some .boolean, 4, 89),
  (⟨"MindReadersModel", "whichNow", "()I"⟩, prog_9_method_62_code, 5, some .int, 6, 138),
  (⟨"MindReadersModel", "which", "()I"⟩, prog_9_method_63_code, 1, some .int, 7, 162),
  (⟨"MindReadersModel", "step", "(II)I"⟩, prog_9_method_64_code, 8, some .int, 6, 138),
  (⟨"MindReadersModel", "seen", "(II)J"⟩, prog_9_method_65_code, 8, some .long, 2, 55),
  (⟨"MindReadersModel", "isLike", "(III)Z"⟩, prog_9_method_66_code, 8, some .boolean, 0, 0),
  (⟨"MindReadersModel", "changeOf", "(II)I"⟩, prog_9_method_67_code, 6, some .int, 4, 92),
  (⟨"MindReadersModel", "change", "(II)I"⟩, prog_9_method_68_code, 3, some .int, 5, 117),
  (⟨"MindReadersModel", "cheapest", "(I)I"⟩, prog_9_method_69_code, 7, some .int, 5, 117),
  (⟨"MindReadersModel", "luck", "(IIII)J"⟩, prog_9_method_70_code, 10, some .long, 2, 55),
  (⟨"MindReadersModel", "leftOf", "(II)I"⟩, prog_9_method_71_code, 7, some .int, 6, 138),
  (⟨"MindReadersModel", "left", "(II)I"⟩, prog_9_method_72_code, 3, some .int, 7, 164),
  (⟨"MindReadersModel", "stopOf", "(I)I"⟩, prog_9_method_73_code, 7, some .int, 7, 164),
  (⟨"MindReadersModel", "stop", "(I)I"⟩, prog_9_method_74_code, 2, some .int, 8, 190),
  (⟨"MindReadersModel", "image", "()I"⟩, prog_9_method_75_code, 2, some .int, 0, 0),
  (⟨"MindReadersModel", "restore", "()I"⟩, prog_9_method_76_code, 2, some .int, 0, 0),
  (⟨"MindReadersModel", "countOf", "(I)I"⟩, prog_9_method_77_code, 2, some .int, 1, 23),
  (⟨"MindReadersModel", "count", "(I)I"⟩, prog_9_method_78_code, 2, some .int, 2, 44),
  (⟨"MindReadersModel", "say", "(J)V"⟩, prog_9_method_79_code, 3, none, 0, 0),
  (⟨"MindReadersModel", "sayCode", "(I)V"⟩, prog_9_method_80_code, 4, none, 8, 190),
  (⟨"MindReadersModel", "digest", "()J"⟩, prog_9_method_81_code, 3, some .long, 9, 213),
  (⟨"MindReaders$Code", "<init>", "()V"⟩, prog_2_method_1_code, 1, none, 3, 65),
  (⟨"MindReaders$Code", "size", "()I"⟩, prog_2_method_2_code, 1, some .int, 0, 0),
  (⟨"MindReaders$Code", "spoken", "(I)LMindReaders$Row;"⟩, prog_2_method_3_code, 2, some (.object "MindReaders$Row"), 1, 22),
  (⟨"MindReaders$Code", "plain", "(I)LMindReaders$Row;"⟩, prog_2_method_4_code, 2, some (.object "MindReaders$Row"), 1, 22),
  (⟨"MindReaders$Code", "readFrom", "(LMindReaders$Row;)V"⟩, prog_2_method_5_code, 4, none, 2, 43),
  (⟨"MindReaders$Code", "makePlain", "(LMindReaders$Signals;)V"⟩, prog_2_method_6_code, 3, none, 3, 69),
  (⟨"MindReaders$Code", "meaningOf", "(LMindReaders$Row;)I"⟩, prog_2_method_7_code, 3, some .int, 3, 64),
  (⟨"MindReaders$Code", "firstAlike", "()I"⟩, prog_2_method_8_code, 3, some .int, 3, 64),
  (⟨"MindReaders$Code", "firstStart", "()I"⟩, prog_2_method_9_code, 3, some .int, 2, 43),
  (⟨"MindReaders$Code", "leastApart", "()I"⟩, prog_2_method_10_code, 5, some .int, 2, 44),
  (⟨"MindReaders$Code", "nearestTo", "(LMindReaders$Row;)I"⟩, prog_2_method_11_code, 6, some .int, 2, 44),
  (⟨"MindReaders$Notes", "<init>", "()V"⟩, prog_3_method_1_code, 1, none, 3, 65),
  (⟨"MindReaders$Notes", "size", "()I"⟩, prog_3_method_2_code, 1, some .int, 1, 20),
  (⟨"MindReaders$Notes", "thingOf", "(I)I"⟩, prog_3_method_3_code, 2, some .int, 1, 21),
  (⟨"MindReaders$Notes", "rowOf", "(I)LMindReaders$Row;"⟩, prog_3_method_4_code, 2, some (.object "MindReaders$Row"), 1, 22),
  (⟨"MindReaders$Notes", "add", "(ILMindReaders$Row;)V"⟩, prog_3_method_5_code, 3, none, 2, 43),
  (⟨"MindReaders$Notes", "wipe", "()V"⟩, prog_3_method_6_code, 1, none, 1, 20),
  (⟨"MindReaders$Notes", "copyOf", "(LMindReaders$Notes;)V"⟩, prog_3_method_7_code, 3, none, 3, 65),
  (⟨"MindReaders$Readings", "<init>", "()V"⟩, prog_4_method_1_code, 1, none, 2, 42),
  (⟨"MindReaders$Readings", "leastTwice", "(LMindReaders$Code;)I"⟩, prog_4_method_2_code, 4, some .int, 4, 100),
  (⟨"MindReaders$Readings", "goOn", "(LMindReaders$Code;)Z"⟩, prog_4_method_3_code, 6, some .boolean, 3, 75),
  (⟨"MindReaders$Readings", "meet", "(LMindReaders$Code;IIII)Z"⟩, prog_4_method_4_code, 10, some .boolean, 2, 46),
  (⟨"MindReaders$Readings", "comeTo", "(III)Z"⟩, prog_4_method_5_code, 5, some .boolean, 1, 22),
  (⟨"MindReaders$Row", "<init>", "(I)V"⟩, prog_5_method_1_code, 2, none, 1, 21),
  (⟨"MindReaders$Row", "size", "()I"⟩, prog_5_method_2_code, 1, some .int, 0, 0),
  (⟨"MindReaders$Row", "at", "(I)I"⟩, prog_5_method_3_code, 2, some .int, 0, 0),
  (⟨"MindReaders$Row", "set", "(II)V"⟩, prog_5_method_4_code, 3, none, 0, 0),
  (⟨"MindReaders$Row", "add", "(I)V"⟩, prog_5_method_5_code, 2, none, 0, 0),
  (⟨"MindReaders$Row", "dropLast", "()V"⟩, prog_5_method_6_code, 1, none, 0, 0),
  (⟨"MindReaders$Row", "wipe", "()V"⟩, prog_5_method_7_code, 1, none, 0, 0),
  (⟨"MindReaders$Row", "copyOf", "(LMindReaders$Row;)V"⟩, prog_5_method_8_code, 3, none, 1, 21),
  (⟨"MindReaders$Row", "isLike", "(LMindReaders$Row;)Z"⟩, prog_5_method_9_code, 2, some .boolean, 2, 43),
  (⟨"MindReaders$Row", "isStartOf", "(LMindReaders$Row;)Z"⟩, prog_5_method_10_code, 3, some .boolean, 1, 21),
  (⟨"MindReaders$Row", "placesApart", "(LMindReaders$Row;)I"⟩, prog_5_method_11_code, 4, some .int, 1, 21),
  (⟨"MindReaders$Row", "isBelow", "(I)Z"⟩, prog_5_method_12_code, 3, some .boolean, 1, 21),
  (⟨"MindReaders$Row", "sumOf", "(I)I"⟩, prog_5_method_13_code, 4, some .int, 1, 21),
  (⟨"MindReaders$Row", "takeLeast", "()I"⟩, prog_5_method_14_code, 3, some .int, 1, 22),
  (⟨"MindReaders$Row", "turn", "(I)V"⟩, prog_5_method_15_code, 4, none, 1, 22),
  (⟨"MindReaders$Rows", "<init>", "(II)V"⟩, prog_6_method_1_code, 4, none, 2, 42),
  (⟨"MindReaders$Rows", "row", "(I)LMindReaders$Row;"⟩, prog_6_method_2_code, 3, some (.object "MindReaders$Row"), 0, 0),
  (⟨"MindReaders$Signals", "<init>", "()V"⟩, prog_7_method_1_code, 1, none, 2, 42),
  (⟨"MindReaders$Signals", "told", "()I"⟩, prog_7_method_2_code, 1, some .int, 1, 20),
  (⟨"MindReaders$Signals", "isTold", "(I)Z"⟩, prog_7_method_3_code, 2, some .boolean, 1, 20),
  (⟨"MindReaders$Signals", "tell", "(IIII)V"⟩, prog_7_method_4_code, 5, none, 1, 21),
  (⟨"MindReaders$Signals", "kindOf", "(I)I"⟩, prog_7_method_5_code, 3, some .int, 1, 21),
  (⟨"MindReaders$Signals", "toneOf", "(I)I"⟩, prog_7_method_6_code, 2, some .int, 1, 21),
  (⟨"MindReaders$Signals", "secondsOf", "(I)I"⟩, prog_7_method_7_code, 3, some .int, 1, 21),
  (⟨"MindReaders$Signals", "oddOf", "(I)I"⟩, prog_7_method_8_code, 3, some .int, 1, 21),
  (⟨"MindReaders$Signals", "isToneFor", "(II)Z"⟩, prog_7_method_9_code, 3, some .boolean, 2, 43),
  (⟨"MindReaders$Signals", "secondsOfAll", "(LMindReaders$Row;)I"⟩, prog_7_method_10_code, 4, some .int, 2, 43),
  (⟨"MindReaders$Signals", "oddOfAll", "(LMindReaders$Row;)I"⟩, prog_7_method_11_code, 4, some .int, 2, 43),
  (⟨"MindReaders$Signals", "makePlain", "(LMindReaders$Row;ILMindReaders$Row;)V"⟩, prog_7_method_12_code, 7, none, 2, 43),
  (⟨"MindReaders", "<init>", "()V"⟩, prog_1_method_1_code, 2, none, 4, 85),
  (⟨"MindReaders", "letters", "(J)I"⟩, prog_1_method_2_code, 5, some .int, 2, 46),
  (⟨"MindReaders", "blank", "()I"⟩, prog_1_method_3_code, 2, some .int, 1, 20),
  (⟨"MindReaders", "fault", "()I"⟩, prog_1_method_4_code, 1, some .int, 2, 45),
  (⟨"MindReaders", "code", "()I"⟩, prog_1_method_5_code, 3, some .int, 4, 91),
  (⟨"MindReaders", "signal", "(IIII)I"⟩, prog_1_method_6_code, 7, some .int, 4, 91),
  (⟨"MindReaders", "as", "(II)I"⟩, prog_1_method_7_code, 5, some .int, 2, 43),
  (⟨"MindReaders", "about", "(II)I"⟩, prog_1_method_8_code, 3, some .int, 2, 43),
  (⟨"MindReaders", "thing", "(I)I"⟩, prog_1_method_9_code, 2, some .int, 1, 21),
  (⟨"MindReaders", "weigh", "(II)I"⟩, prog_1_method_10_code, 4, some .int, 2, 41),
  (⟨"MindReaders", "speech", "(III)I"⟩, prog_1_method_11_code, 5, some .int, 4, 88),
  (⟨"MindReaders", "means", "(I)I"⟩, prog_1_method_12_code, 3, some .int, 4, 89),
  (⟨"MindReaders", "clear", "(II)I"⟩, prog_1_method_13_code, 5, some .int, 4, 86),
  (⟨"MindReaders", "starts", "(II)I"⟩, prog_1_method_14_code, 4, some .int, 3, 65),
  (⟨"MindReaders", "twice", "(I)I"⟩, prog_1_method_15_code, 3, some .int, 5, 123),
  (⟨"MindReaders", "mean", "(II)I"⟩, prog_1_method_16_code, 8, some .int, 4, 88),
  (⟨"MindReaders", "oddness", "(I)I"⟩, prog_1_method_17_code, 6, some .int, 3, 66),
  (⟨"MindReaders", "dealt", "(II)I"⟩, prog_1_method_18_code, 8, some .int, 6, 138),
  (⟨"MindReaders", "shortest", "(II)I"⟩, prog_1_method_19_code, 3, some .int, 3, 71),
  (⟨"MindReaders", "apart", "(I)I"⟩, prog_1_method_20_code, 3, some .int, 3, 68),
  (⟨"MindReaders", "named", "(I)I"⟩, prog_1_method_21_code, 3, some .int, 4, 89),
  (⟨"MindReaders", "right", "(IIIII)J"⟩, prog_1_method_22_code, 8, some .long, 4, 101),
  (⟨"MindReaders", "note", "(I)I"⟩, prog_1_method_23_code, 2, some .int, 3, 65),
  (⟨"MindReaders", "forget", "()I"⟩, prog_1_method_24_code, 2, some .int, 2, 40),
  (⟨"MindReaders", "which", "()I"⟩, prog_1_method_25_code, 4, some .int, 4, 94),
  (⟨"MindReaders", "step", "(II)I"⟩, prog_1_method_26_code, 6, some .int, 4, 94),
  (⟨"MindReaders", "seen", "(II)J"⟩, prog_1_method_27_code, 3, some .long, 2, 52),
  (⟨"MindReaders", "change", "(II)I"⟩, prog_1_method_28_code, 5, some .int, 5, 112),
  (⟨"MindReaders", "cheapest", "(I)I"⟩, prog_1_method_29_code, 8, some .int, 5, 112),
  (⟨"MindReaders", "luck", "(IIII)J"⟩, prog_1_method_30_code, 8, some .long, 1, 31),
  (⟨"MindReaders", "left", "(II)I"⟩, prog_1_method_31_code, 4, some .int, 4, 96),
  (⟨"MindReaders", "stop", "(I)I"⟩, prog_1_method_32_code, 5, some .int, 4, 96),
  (⟨"MindReaders", "image", "()I"⟩, prog_1_method_33_code, 1, some .int, 4, 87),
  (⟨"MindReaders", "restore", "()I"⟩, prog_1_method_34_code, 2, some .int, 4, 87),
  (⟨"MindReaders", "count", "(I)I"⟩, prog_1_method_35_code, 2, some .int, 2, 44),
  (⟨"MindReaders", "digest", "()J"⟩, prog_1_method_36_code, 5, some .long, 6, 151),
  (⟨"MindReaders", "mix", "(JJ)J"⟩, prog_1_method_37_code, 4, some .long, 0, 0),
  (⟨"MindReaders", "mixRow", "(JLMindReaders$Row;)J"⟩, prog_1_method_38_code, 6, some .long, 1, 23),
  (⟨"MindReaders", "mixCode", "(JILMindReaders$Code;)J"⟩, prog_1_method_39_code, 9, some .long, 5, 123),
  (⟨"MindReaders", "byteOf", "(JI)I"⟩, prog_1_method_40_code, 3, some .int, 0, 0),
  (⟨"MindReaders", "lettersIn", "(J)I"⟩, prog_1_method_41_code, 5, some .int, 1, 22),
  (⟨"MindReaders", "signalOf", "(I)I"⟩, prog_1_method_42_code, 1, some .int, 0, 0),
  (⟨"MindReaders", "firstFault", "()I"⟩, prog_1_method_43_code, 5, some .int, 1, 21),
  (⟨"MindReaders", "readPage", "()Z"⟩, prog_1_method_44_code, 3, some .boolean, 1, 21),
  (⟨"MindReaders", "hearPage", "()Z"⟩, prog_1_method_45_code, 1, some .boolean, 3, 69),
  (⟨"MindReaders", "isWeight", "(I)Z"⟩, prog_1_method_46_code, 1, some .boolean, 0, 0),
  (⟨"MindReaders", "isPart", "(I)Z"⟩, prog_1_method_47_code, 1, some .boolean, 0, 0),
  (⟨"MindReaders", "isThing", "(I)Z"⟩, prog_1_method_48_code, 2, some .boolean, 1, 20),
  (⟨"MindReaders", "codeAt", "(I)LMindReaders$Code;"⟩, prog_1_method_49_code, 2, some (.object "MindReaders$Code"), 0, 0),
  (⟨"MindReaders", "thingsSaid", "(LMindReaders$Code;)I"⟩, prog_1_method_50_code, 2, some .int, 1, 21),
  (⟨"MindReaders", "longOf", "(LMindReaders$Code;I)I"⟩, prog_1_method_51_code, 3, some .int, 3, 66),
  (⟨"MindReaders", "ofPair", "(II)I"⟩, prog_1_method_52_code, 2, some .int, 0, 0),
  (⟨"MindReaders", "dealtTo", "(LMindReaders$Code;I)I"⟩, prog_1_method_53_code, 6, some .int, 5, 113),
  (⟨"MindReaders", "rankByLong", "(LMindReaders$Code;II)I"⟩, prog_1_method_54_code, 6, some .int, 4, 88),
  (⟨"MindReaders", "isAhead", "(IIII)Z"⟩, prog_1_method_55_code, 4, some .boolean, 0, 0),
  (⟨"MindReaders", "changeOf", "(LMindReaders$Code;LMindReaders$Code;)I"⟩, prog_1_method_56_code, 5, some .int, 4, 88),
  (⟨"MindReaders", "notesLet", "(LMindReaders$Code;II)Z"⟩, prog_1_method_57_code, 6, some .boolean, 3, 69),
  (⟨"MindReaders", "leastLong", "(I)J"⟩, prog_1_method_58_code, 8, some .long, 2, 44),
  (⟨"MindReaders", "waysNamed", "(LMindReaders$Code;III)J"⟩, prog_1_method_59_code, 13, some .long, 3, 69),
  (⟨"MindReaders", "waysHeard", "(LMindReaders$Row;II)J"⟩, prog_1_method_60_code, 7, some .long, 1, 21),
  (⟨"MindReaders", "waysAllSeen", "(I)J"⟩, prog_1_method_61_code, 8, some .long, 1, 25),
  (⟨"MindReaders", "choices", "(II)J"⟩, prog_1_method_62_code, 5, some .long, 0, 0),
  (⟨"MindReaders", "power", "(JI)J"⟩, prog_1_method_63_code, 6, some .long, 0, 0),
  (⟨"MindReaders", "lowest", "(JJI)J"⟩, prog_1_method_64_code, 12, some .long, 0, 0),
  (⟨"MindReaders", "unlike", "(LMindReaders$Code;II)I"⟩, prog_1_method_65_code, 8, some .int, 3, 69),
  (⟨"java/lang/Integer", "bitCount", "(I)I"⟩, prog_10_method_49_code, 1, some .int, 0, 0)]
def zcol : List (List (Nat × List zE)) := [zc_0, zc_1, zc_2, zc_3, zc_4, zc_5, zc_6, zc_7, zc_8, zc_9, zc_10, zc_11, zc_12, zc_13, zc_14, zc_15, zc_16, zc_17, zc_18, zc_19, zc_20, zc_21, zc_22, zc_23, zc_24, zc_25, zc_26, zc_27, zc_28, zc_29, zc_30, zc_31, zc_32, zc_33, zc_34, zc_35, zc_36, zc_37, zc_38, zc_39, zc_40, zc_41, zc_42, zc_43, zc_44, zc_45, zc_46, zc_47, zc_48, zc_49, zc_50, zc_51, zc_52, zc_53, zc_54, zc_55, zc_56, zc_57, zc_58, zc_59, zc_60, zc_61, zc_62, zc_63, zc_64, zc_65, zc_66, zc_67, zc_68, zc_69, zc_70, zc_71, zc_72, zc_73, zc_74, zc_75, zc_76, zc_77, zc_78, zc_79, zc_80, zc_81, zc_82, zc_83, zc_84, zc_85, zc_86, zc_87, zc_88, zc_89, zc_90, zc_91, zc_92, zc_93, zc_94, zc_95, zc_96, zc_97, zc_98, zc_99, zc_100, zc_101, zc_102, zc_103, zc_104, zc_105, zc_106, zc_107, zc_108, zc_109, zc_110, zc_111, zc_112, zc_113, zc_114, zc_115, zc_116, zc_117, zc_118, zc_119, zc_120, zc_121, zc_122, zc_123, zc_124, zc_125, zc_126, zc_127, zc_128, zc_129, zc_130, zc_131, zc_132, zc_133, zc_134, zc_135, zc_136, zc_137, zc_138, zc_139, zc_140, zc_141, zc_142, zc_143, zc_144, zc_145, zc_146, zc_147, zc_148, zc_149, zc_150, zc_151, zc_152, zc_153, zc_154, zc_155, zc_156, zc_157, zc_158, zc_159, zc_160, zc_161, zc_162, zc_163, zc_164, zc_165, zc_166, zc_167, zc_168, zc_169, zc_170, zc_171, zc_172, zc_173, zc_174, zc_175, zc_176, zc_177, zc_178, zc_179, zc_180, zc_181, zc_182, zc_183, zc_184, zc_185, zc_186, zc_187, zc_188, zc_189, zc_190, zc_191, zc_192, zc_193, zc_194, zc_195, zc_196, zc_197, zc_198, zc_199]
def zmt (M : Nat) : Option zM := zmtl[M]?
def zblk (M pc : Nat) : Option (List zE) := match zcol[M]? with
  | some bs => bs.lookup pc
  | none => none
end
section
/-! ===== what each block of code does (printed by a program of mine; each by rfl) ===== -/
/-- MindReadersModel.in(JJJ)Z -/
noncomputable abbrev r_M_in (xs : List Int) (v1 : Int) (v2 : Int) (v3 : Int) (h : zH) : Option zR := zx zblk xs 2 0 [some (.inr (.inl v1)), none, some (.inr (.inl v2)), none, some (.inr (.inl v3)), none] [] h
theorem e_M_in_0 (xs : List Int) (v0 : Int) (v2 : Int) (v4 : Int) (h : zH) : zx zblk xs 2 0 [some (.inr (.inl v0)), none, some (.inr (.inl v2)), none, some (.inr (.inl v4)), none] [] h = (if zw (if zwl v0 < zwl v2 then -1 else if zwl v0 = zwl v2 then 0 else 1) < 0 then zx zblk xs 2 17 [] [] h else (if 0 < zw (if zwl v0 < zwl v4 then -1 else if zwl v0 = zwl v4 then 0 else 1) then zx zblk xs 2 17 [] [] h else zx zblk xs 2 18 [] [.inl 1] h)) := (zx_unfold zblk xs 2 0 _ rfl _ _ _).trans rfl
theorem e_M_in_17 (xs : List Int)  (h : zH) : zx zblk xs 2 17 [] [] h = zx zblk xs 2 18 [] [.inl 0] h := (zx_unfold zblk xs 2 17 _ rfl _ _ _).trans rfl
theorem e_M_in_18 (xs : List Int) (s0 : Int) (h : zH) : zx zblk xs 2 18 [] [.inl s0] h = (if s0 = 0 ∨ s0 = 1 then some (some (.inl s0), h) else none) := (zx_unfold zblk xs 2 18 _ rfl _ _ _).trans rfl
/-- MindReadersModel.letters(J)I -/
noncomputable abbrev r_M_letters (xs : List Int) (p : Nat) (v1 : Int) (h : zH) : Option zR := zx zblk xs 3 0 [some (.inr (.inr (some p))), some (.inr (.inl v1)), none] [] h
theorem e_M_letters_0 (xs : List Int) (p : Nat) (v1 : Int) (h : zH) : zx zblk xs 3 0 [some (.inr (.inr (some p))), some (.inr (.inl v1)), none] [] h = zx zblk xs 3 11 [some (.inr (.inr (some p))), some (.inr (.inl v1)), none, some (.inl 0), some (.inl 1), some (.inr (.inl v1)), none, some (.inl 0)] [] h := (zx_unfold zblk xs 3 0 _ rfl _ _ _).trans rfl
theorem e_M_letters_11 (xs : List Int) (p : Nat) (v1 : Int) (v3 : Int) (v4 : Int) (v5 : Int) (v7 : Int) (h : zH) : zx zblk xs 3 11 [some (.inr (.inr (some p))), some (.inr (.inl v1)), none, some (.inl v3), some (.inl v4), some (.inr (.inl v5)), none, some (.inl v7)] [] h = (if zw 8 ≤ zw v7 then zx zblk xs 3 83 [some (.inr (.inr (some p))), some (.inr (.inl v1)), none, some (.inl v3), some (.inl v4)] [] h else (if zw v4 = 0 then zx zblk xs 3 61 [some (.inr (.inr (some p))), some (.inr (.inl v1)), none, some (.inl v3), none, some (.inr (.inl (zushrl v5 8))), none, some (.inl v7), some (.inl (zandl v5 255))] [] h else (if zw 126 < zw (zandl v5 255) then zx zblk xs 3 61 [some (.inr (.inr (some p))), some (.inr (.inl v1)), none, some (.inl v3), none, some (.inr (.inl (zushrl v5 8))), none, some (.inl v7), some (.inl (zandl v5 255))] [] h else (if zw (zandl v5 255) = 0 then zx zblk xs 3 57 [some (.inr (.inr (some p))), some (.inr (.inl v1)), none, some (.inl v3), none, some (.inr (.inl (zushrl v5 8))), none, some (.inl v7), some (.inl (zandl v5 255))] [] h else (if zw v3 ≠ zw v7 then zx zblk xs 3 61 [some (.inr (.inr (some p))), some (.inr (.inl v1)), none, some (.inl v3), none, some (.inr (.inl (zushrl v5 8))), none, some (.inl v7), some (.inl (zandl v5 255))] [] h else zx zblk xs 3 57 [some (.inr (.inr (some p))), some (.inr (.inl v1)), none, some (.inl v3), none, some (.inr (.inl (zushrl v5 8))), none, some (.inl v7), some (.inl (zandl v5 255))] [] h))))) := (zx_unfold zblk xs 3 11 _ rfl _ _ _).trans rfl
theorem e_M_letters_57 (xs : List Int) (p : Nat) (v1 : Int) (v3 : Int) (v5 : Int) (v7 : Int) (v8 : Int) (h : zH) : zx zblk xs 3 57 [some (.inr (.inr (some p))), some (.inr (.inl v1)), none, some (.inl v3), none, some (.inr (.inl v5)), none, some (.inl v7), some (.inl v8)] [] h = zx zblk xs 3 62 [some (.inr (.inr (some p))), some (.inr (.inl v1)), none, some (.inl v3), none, some (.inr (.inl v5)), none, some (.inl v7), some (.inl v8)] [.inl 1] h := (zx_unfold zblk xs 3 57 _ rfl _ _ _).trans rfl
theorem e_M_letters_61 (xs : List Int) (p : Nat) (v1 : Int) (v3 : Int) (v5 : Int) (v7 : Int) (v8 : Int) (h : zH) : zx zblk xs 3 61 [some (.inr (.inr (some p))), some (.inr (.inl v1)), none, some (.inl v3), none, some (.inr (.inl v5)), none, some (.inl v7), some (.inl v8)] [] h = zx zblk xs 3 62 [some (.inr (.inr (some p))), some (.inr (.inl v1)), none, some (.inl v3), none, some (.inr (.inl v5)), none, some (.inl v7), some (.inl v8)] [.inl 0] h := (zx_unfold zblk xs 3 61 _ rfl _ _ _).trans rfl
theorem e_M_letters_62 (xs : List Int) (p : Nat) (v1 : Int) (v3 : Int) (v5 : Int) (v7 : Int) (v8 : Int) (s0 : Int) (h : zH) : zx zblk xs 3 62 [some (.inr (.inr (some p))), some (.inr (.inl v1)), none, some (.inl v3), none, some (.inr (.inl v5)), none, some (.inl v7), some (.inl v8)] [.inl s0] h = (if zw v8 ≤ 0 then zx zblk xs 3 74 [some (.inr (.inr (some p))), some (.inr (.inl v1)), none, none, some (.inl s0), some (.inr (.inl v5)), none, some (.inl v7)] [.inl v3] h else zx zblk xs 3 75 [some (.inr (.inr (some p))), some (.inr (.inl v1)), none, none, some (.inl s0), some (.inr (.inl v5)), none, some (.inl v7)] [.inl 1, .inl v3] h) := (zx_unfold zblk xs 3 62 _ rfl _ _ _).trans rfl
theorem e_M_letters_74 (xs : List Int) (p : Nat) (v1 : Int) (v4 : Int) (v5 : Int) (v7 : Int) (s0 : Int) (h : zH) : zx zblk xs 3 74 [some (.inr (.inr (some p))), some (.inr (.inl v1)), none, none, some (.inl v4), some (.inr (.inl v5)), none, some (.inl v7)] [.inl s0] h = zx zblk xs 3 75 [some (.inr (.inr (some p))), some (.inr (.inl v1)), none, none, some (.inl v4), some (.inr (.inl v5)), none, some (.inl v7)] [.inl 0, .inl s0] h := (zx_unfold zblk xs 3 74 _ rfl _ _ _).trans rfl
theorem e_M_letters_75 (xs : List Int) (p : Nat) (v1 : Int) (v4 : Int) (v5 : Int) (v7 : Int) (s0 : Int) (s1 : Int) (h : zH) : zx zblk xs 3 75 [some (.inr (.inr (some p))), some (.inr (.inl v1)), none, none, some (.inl v4), some (.inr (.inl v5)), none, some (.inl v7)] [.inl s1, .inl s0] h = zx zblk xs 3 11 [some (.inr (.inr (some p))), some (.inr (.inl v1)), none, some (.inl (s0 + s1)), some (.inl v4), some (.inr (.inl v5)), none, some (.inl (v7 + 1))] [] h := (zx_unfold zblk xs 3 75 _ rfl _ _ _).trans rfl
theorem e_M_letters_83 (xs : List Int) (p : Nat) (v1 : Int) (v3 : Int) (v4 : Int) (h : zH) : zx zblk xs 3 83 [some (.inr (.inr (some p))), some (.inr (.inl v1)), none, some (.inl v3), some (.inl v4)] [] h = (if zw v4 ≠ 0 then zx zblk xs 3 91 [some (.inr (.inr (some p))), some (.inr (.inl v1)), none, some (.inl v3)] [] h else some (some (.inl (-102)), h)) := (zx_unfold zblk xs 3 83 _ rfl _ _ _).trans rfl
theorem e_M_letters_91 (xs : List Int) (p : Nat) (v1 : Int) (v3 : Int) (h : zH) : zx zblk xs 3 91 [some (.inr (.inr (some p))), some (.inr (.inl v1)), none, some (.inl v3)] [] h = (zgi h (some p) 7 1 fun f1 => (if zw (f1 + v3) ≤ zw 48 then zx zblk xs 3 105 [some (.inr (.inr (some p))), some (.inr (.inl v1)), none, some (.inl v3)] [] h else some (some (.inl (-104)), h))) := (zx_unfold zblk xs 3 91 _ rfl _ _ _).trans rfl
theorem e_M_letters_105 (xs : List Int) (p : Nat) (v1 : Int) (v3 : Int) (h : zH) : zx zblk xs 3 105 [some (.inr (.inr (some p))), some (.inr (.inl v1)), none, some (.inl v3)] [] h = zx zblk xs 3 108 [some (.inr (.inr (some p))), some (.inr (.inl v1)), none, some (.inl v3), none, none, none, some (.inl 0)] [] h := (zx_unfold zblk xs 3 105 _ rfl _ _ _).trans rfl
theorem e_M_letters_108 (xs : List Int) (p : Nat) (v1 : Int) (v3 : Int) (v7 : Int) (h : zH) : zx zblk xs 3 108 [some (.inr (.inr (some p))), some (.inr (.inl v1)), none, some (.inl v3), none, none, none, some (.inl v7)] [] h = (if zw v3 ≤ zw v7 then zx zblk xs 3 151 [some (.inr (.inr (some p)))] [] h else (zgr h (some p) 7 0 fun f1 => (zgi h (some p) 7 1 fun f2 => (zst h f1 100 f2 (.inl (zandl (zushrl v1 (8 * v7)) 255)) fun h3 => (zgi h3 (some p) 7 1 fun f4 => (zpf h3 (some p) 7 1 (.inl (f4 + 1)) fun h5 => zx zblk xs 3 108 [some (.inr (.inr (some p))), some (.inr (.inl v1)), none, some (.inl v3), none, none, none, some (.inl (v7 + 1))] [] h5)))))) := (zx_unfold zblk xs 3 108 _ rfl _ _ _).trans rfl
theorem e_M_letters_151 (xs : List Int) (p : Nat) (h : zH) : zx zblk xs 3 151 [some (.inr (.inr (some p)))] [] h = (zgi h (some p) 7 1 fun f1 => some (some (.inl f1), h)) := (zx_unfold zblk xs 3 151 _ rfl _ _ _).trans rfl
/-- MindReadersModel.blank()I -/
noncomputable abbrev r_M_blank (xs : List Int) (p : Nat) (h : zH) : Option zR := zx zblk xs 4 0 [some (.inr (.inr (some p)))] [] h
theorem e_M_blank_0 (xs : List Int) (p : Nat) (h : zH) : zx zblk xs 4 0 [some (.inr (.inr (some p)))] [] h = (zgi h (some p) 7 1 fun f1 => (zpf h (some p) 7 1 (.inl 0) fun h2 => some (some (.inl f1), h2))) := (zx_unfold zblk xs 4 0 _ rfl _ _ _).trans rfl
/-- MindReadersModel.go(I)Z -/
noncomputable abbrev r_M_go (xs : List Int) (p : Nat) (v1 : Int) (h : zH) : Option zR := zx zblk xs 5 0 [some (.inr (.inr (some p))), some (.inl v1)] [] h
theorem e_M_go_0 (xs : List Int) (p : Nat) (v1 : Int) (h : zH) : zx zblk xs 5 0 [some (.inr (.inr (some p))), some (.inl v1)] [] h = (if zw v1 ≠ zw 44 then zx zblk xs 5 45 [some (.inr (.inr (some p))), some (.inl v1)] [] h else (zgi h (some p) 7 3 fun f1 => (if zw f1 ≤ 0 then zx zblk xs 5 26 [some (.inr (.inr (some p)))] [] h else (zgi h (some p) 7 2 fun f2 => (if zw 7 ≤ zw f2 then zx zblk xs 5 26 [some (.inr (.inr (some p)))] [] h else zx zblk xs 5 27 [some (.inr (.inr (some p)))] [.inl 1] h))))) := (zx_unfold zblk xs 5 0 _ rfl _ _ _).trans rfl
theorem e_M_go_26 (xs : List Int) (p : Nat) (h : zH) : zx zblk xs 5 26 [some (.inr (.inr (some p)))] [] h = zx zblk xs 5 27 [some (.inr (.inr (some p)))] [.inl 0] h := (zx_unfold zblk xs 5 26 _ rfl _ _ _).trans rfl
theorem e_M_go_27 (xs : List Int) (p : Nat) (s0 : Int) (h : zH) : zx zblk xs 5 27 [some (.inr (.inr (some p)))] [.inl s0] h = (zgi h (some p) 7 2 fun f1 => (zpf h (some p) 7 2 (.inl (f1 + 1)) fun h2 => (zpf h2 (some p) 7 3 (.inl 0) fun h3 => (if s0 = 0 ∨ s0 = 1 then some (some (.inl s0), h3) else none)))) := (zx_unfold zblk xs 5 27 _ rfl _ _ _).trans rfl
theorem e_M_go_45 (xs : List Int) (p : Nat) (v1 : Int) (h : zH) : zx zblk xs 5 45 [some (.inr (.inr (some p))), some (.inl v1)] [] h = (zci (zx zblk xs 2 0 [some (.inr (.inl (zw v1))), none, some (.inr (.inl 97)), none, some (.inr (.inl 104)), none] [] h) fun r2 h1 => (if zw r2 = 0 then zx zblk xs 5 71 [some (.inr (.inr (some p))), some (.inl v1)] [] h1 else (zgi h1 (some p) 7 3 fun f3 => (if zw 5 ≤ zw f3 then zx zblk xs 5 71 [some (.inr (.inr (some p))), some (.inl v1)] [] h1 else zx zblk xs 5 72 [some (.inr (.inr (some p))), some (.inl v1)] [.inl 1] h1)))) := (zx_unfold zblk xs 5 45 _ rfl _ _ _).trans rfl
theorem e_M_go_71 (xs : List Int) (p : Nat) (v1 : Int) (h : zH) : zx zblk xs 5 71 [some (.inr (.inr (some p))), some (.inl v1)] [] h = zx zblk xs 5 72 [some (.inr (.inr (some p))), some (.inl v1)] [.inl 0] h := (zx_unfold zblk xs 5 71 _ rfl _ _ _).trans rfl
theorem e_M_go_72 (xs : List Int) (p : Nat) (v1 : Int) (s0 : Int) (h : zH) : zx zblk xs 5 72 [some (.inr (.inr (some p))), some (.inl v1)] [.inl s0] h = (if zw s0 = 0 then zx zblk xs 5 124 [none, none, some (.inl s0)] [] h else (zgi h (some p) 7 3 fun f1 => (zpf h (some p) 7 3 (.inl (f1 + 1)) fun h2 => (zgr h2 (some p) 7 4 fun f3 => (zgi h2 (some p) 7 2 fun f4 => (zgi h2 (some p) 7 3 fun f5 => (zst h2 f3 100 (6 * f4) (.inl f5) fun h6 => (zgr h6 (some p) 7 4 fun f7 => (zgi h6 (some p) 7 2 fun f8 => (zgi h6 (some p) 7 3 fun f9 => (zst h6 f7 100 ((6 * f8) + f9) (.inl (v1 - 97)) fun h10 => zx zblk xs 5 124 [none, none, some (.inl s0)] [] h10))))))))))) := (zx_unfold zblk xs 5 72 _ rfl _ _ _).trans rfl
theorem e_M_go_124 (xs : List Int) (v2 : Int) (h : zH) : zx zblk xs 5 124 [none, none, some (.inl v2)] [] h = (if v2 = 0 ∨ v2 = 1 then some (some (.inl v2), h) else none) := (zx_unfold zblk xs 5 124 _ rfl _ _ _).trans rfl
/-- MindReadersModel.faultOf()I -/
noncomputable abbrev r_M_faultOf (xs : List Int) (p : Nat) (h : zH) : Option zR := zx zblk xs 6 0 [some (.inr (.inr (some p)))] [] h
theorem e_M_faultOf_0 (xs : List Int) (p : Nat) (h : zH) : zx zblk xs 6 0 [some (.inr (.inr (some p)))] [] h = (zpf h (some p) 7 2 (.inl 0) fun h1 => (zpf h1 (some p) 7 3 (.inl 0) fun h2 => zx zblk xs 6 12 [some (.inr (.inr (some p))), some (.inl 0)] [] h2)) := (zx_unfold zblk xs 6 0 _ rfl _ _ _).trans rfl
theorem e_M_faultOf_12 (xs : List Int) (p : Nat) (v1 : Int) (h : zH) : zx zblk xs 6 12 [some (.inr (.inr (some p))), some (.inl v1)] [] h = (zgi h (some p) 7 1 fun f1 => (if zw f1 ≤ zw v1 then zx zblk xs 6 39 [none, some (.inl v1)] [] h else (zgr h (some p) 7 0 fun f2 => (zai xs h f2 v1 fun a3 => (zck h (some p) 7 (zci (zx zblk xs 5 0 [some (.inr (.inr (some p))), some (.inl a3)] [] h) fun r5 h4 => (if zw r5 = 0 then zx zblk xs 6 39 [none, some (.inl v1)] [] h4 else zx zblk xs 6 12 [some (.inr (.inr (some p))), some (.inl (v1 + 1))] [] h4))))))) := (zx_unfold zblk xs 6 12 _ rfl _ _ _).trans rfl
theorem e_M_faultOf_39 (xs : List Int) (v1 : Int) (h : zH) : zx zblk xs 6 39 [none, some (.inl v1)] [] h = some (some (.inl v1), h) := (zx_unfold zblk xs 6 39 _ rfl _ _ _).trans rfl
/-- MindReadersModel.fault()I -/
noncomputable abbrev r_M_fault (xs : List Int) (p : Nat) (h : zH) : Option zR := zx zblk xs 7 0 [some (.inr (.inr (some p)))] [] h
theorem e_M_fault_0 (xs : List Int) (p : Nat) (h : zH) : zx zblk xs 7 0 [some (.inr (.inr (some p)))] [] h = (zck h (some p) 7 (zci (zx zblk xs 6 0 [some (.inr (.inr (some p)))] [] h) fun r2 h1 => some (some (.inl r2), h1))) := (zx_unfold zblk xs 7 0 _ rfl _ _ _).trans rfl
/-- MindReadersModel.code()I -/
noncomputable abbrev r_M_code (xs : List Int) (p : Nat) (h : zH) : Option zR := zx zblk xs 8 0 [some (.inr (.inr (some p)))] [] h
theorem e_M_code_0 (xs : List Int) (p : Nat) (h : zH) : zx zblk xs 8 0 [some (.inr (.inr (some p)))] [] h = (zck h (some p) 7 (zci (zx zblk xs 6 0 [some (.inr (.inr (some p)))] [] h) fun r2 h1 => (zgi h1 (some p) 7 1 fun f3 => (if zw r2 < zw f3 then zx zblk xs 8 18 [] [] h1 else (zgi h1 (some p) 7 3 fun f4 => (if zw f4 ≠ 0 then zx zblk xs 8 21 [some (.inr (.inr (some p)))] [] h1 else zx zblk xs 8 18 [] [] h1)))))) := (zx_unfold zblk xs 8 0 _ rfl _ _ _).trans rfl
theorem e_M_code_18 (xs : List Int)  (h : zH) : zx zblk xs 8 18 [] [] h = some (some (.inl (-103)), h) := (zx_unfold zblk xs 8 18 _ rfl _ _ _).trans rfl
theorem e_M_code_21 (xs : List Int) (p : Nat) (h : zH) : zx zblk xs 8 21 [some (.inr (.inr (some p)))] [] h = (zgi h (some p) 7 5 fun f1 => (if zw f1 ≠ zw 4 then zx zblk xs 8 32 [some (.inr (.inr (some p)))] [] h else some (some (.inl (-104)), h))) := (zx_unfold zblk xs 8 21 _ rfl _ _ _).trans rfl
theorem e_M_code_32 (xs : List Int) (p : Nat) (h : zH) : zx zblk xs 8 32 [some (.inr (.inr (some p)))] [] h = (zgr h (some p) 7 6 fun f1 => (zgi h (some p) 7 5 fun f2 => (zgi h (some p) 7 2 fun f3 => (zst h f1 100 f2 (.inl (f3 + 1)) fun h4 => zx zblk xs 8 49 [some (.inr (.inr (some p))), some (.inl 0)] [] h4)))) := (zx_unfold zblk xs 8 32 _ rfl _ _ _).trans rfl
theorem e_M_code_49 (xs : List Int) (p : Nat) (v1 : Int) (h : zH) : zx zblk xs 8 49 [some (.inr (.inr (some p))), some (.inl v1)] [] h = (if zw 48 ≤ zw v1 then zx zblk xs 8 81 [some (.inr (.inr (some p)))] [] h else (zgr h (some p) 7 7 fun f1 => (zgi h (some p) 7 5 fun f2 => (zgr h (some p) 7 4 fun f3 => (zai xs h f3 v1 fun a4 => (zst h f1 100 ((48 * f2) + v1) (.inl a4) fun h5 => zx zblk xs 8 49 [some (.inr (.inr (some p))), some (.inl (v1 + 1))] [] h5)))))) := (zx_unfold zblk xs 8 49 _ rfl _ _ _).trans rfl
theorem e_M_code_81 (xs : List Int) (p : Nat) (h : zH) : zx zblk xs 8 81 [some (.inr (.inr (some p)))] [] h = (zgi h (some p) 7 5 fun f1 => (zpf h (some p) 7 5 (.inl (f1 + 1)) fun h2 => (zpf h2 (some p) 7 1 (.inl 0) fun h3 => (zgi h3 (some p) 7 5 fun f4 => some (some (.inl (f4 - 1)), h3))))) := (zx_unfold zblk xs 8 81 _ rfl _ _ _).trans rfl
/-- MindReadersModel.isCode(I)Z -/
noncomputable abbrev r_M_isCode (xs : List Int) (p : Nat) (v1 : Int) (h : zH) : Option zR := zx zblk xs 9 0 [some (.inr (.inr (some p))), some (.inl v1)] [] h
theorem e_M_isCode_0 (xs : List Int) (p : Nat) (v1 : Int) (h : zH) : zx zblk xs 9 0 [some (.inr (.inr (some p))), some (.inl v1)] [] h = (zgi h (some p) 7 5 fun f1 => (zci (zx zblk xs 2 0 [some (.inr (.inl (zw v1))), none, some (.inr (.inl 0)), none, some (.inr (.inl (zw (f1 - 1)))), none] [] h) fun r3 h2 => (if r3 = 0 ∨ r3 = 1 then some (some (.inl r3), h2) else none))) := (zx_unfold zblk xs 9 0 _ rfl _ _ _).trans rfl
/-- MindReadersModel.signal(IIII)I -/
noncomputable abbrev r_M_signal (xs : List Int) (p : Nat) (v1 : Int) (v2 : Int) (v3 : Int) (v4 : Int) (h : zH) : Option zR := zx zblk xs 10 0 [some (.inr (.inr (some p))), some (.inl v1), some (.inl v2), some (.inl v3), some (.inl v4)] [] h
theorem e_M_signal_0 (xs : List Int) (p : Nat) (v1 : Int) (v2 : Int) (v3 : Int) (v4 : Int) (h : zH) : zx zblk xs 10 0 [some (.inr (.inr (some p))), some (.inl v1), some (.inl v2), some (.inl v3), some (.inl v4)] [] h = (zci (zx zblk xs 2 0 [some (.inr (.inl (zw v1))), none, some (.inr (.inl 0)), none, some (.inr (.inl 4)), none] [] h) fun r2 h1 => (if zw r2 ≠ 0 then zx zblk xs 10 15 [some (.inr (.inr (some p))), some (.inl v1), some (.inl v2), some (.inl v3), some (.inl v4)] [] h1 else some (some (.inl (-102)), h1))) := (zx_unfold zblk xs 10 0 _ rfl _ _ _).trans rfl
theorem e_M_signal_15 (xs : List Int) (p : Nat) (v1 : Int) (v2 : Int) (v3 : Int) (v4 : Int) (h : zH) : zx zblk xs 10 15 [some (.inr (.inr (some p))), some (.inl v1), some (.inl v2), some (.inl v3), some (.inl v4)] [] h = (if zw v1 ≠ zw 2 then zx zblk xs 10 56 [some (.inr (.inr (some p))), some (.inl v1), some (.inl v2), some (.inl v3), some (.inl v4)] [] h else (zgi h (some p) 7 8 fun f1 => (zci (zx zblk xs 2 0 [some (.inr (.inl (zw v2))), none, some (.inr (.inl 0)), none, some (.inr (.inl (zw (f1 - 1)))), none] [] h) fun r3 h2 => (if zw r3 = 0 then zx zblk xs 10 52 [some (.inr (.inr (some p))), some (.inl v1), some (.inl v2), some (.inl v3), some (.inl v4)] [] h2 else (zgr h2 (some p) 7 9 fun f4 => (zai xs h2 f4 (4 * v2) fun a5 => (if zw 2 ≤ zw a5 then zx zblk xs 10 52 [some (.inr (.inr (some p))), some (.inl v1), some (.inl v2), some (.inl v3), some (.inl v4)] [] h2 else zx zblk xs 10 66 [some (.inr (.inr (some p))), some (.inl v1), some (.inl v2), some (.inl v3), some (.inl v4)] [.inl 1] h2))))))) := (zx_unfold zblk xs 10 15 _ rfl _ _ _).trans rfl
theorem e_M_signal_52 (xs : List Int) (p : Nat) (v1 : Int) (v2 : Int) (v3 : Int) (v4 : Int) (h : zH) : zx zblk xs 10 52 [some (.inr (.inr (some p))), some (.inl v1), some (.inl v2), some (.inl v3), some (.inl v4)] [] h = zx zblk xs 10 66 [some (.inr (.inr (some p))), some (.inl v1), some (.inl v2), some (.inl v3), some (.inl v4)] [.inl 0] h := (zx_unfold zblk xs 10 52 _ rfl _ _ _).trans rfl
theorem e_M_signal_56 (xs : List Int) (p : Nat) (v1 : Int) (v2 : Int) (v3 : Int) (v4 : Int) (h : zH) : zx zblk xs 10 56 [some (.inr (.inr (some p))), some (.inl v1), some (.inl v2), some (.inl v3), some (.inl v4)] [] h = (if zw v2 ≠ zw (-1) then zx zblk xs 10 65 [some (.inr (.inr (some p))), some (.inl v1), some (.inl v2), some (.inl v3), some (.inl v4)] [] h else zx zblk xs 10 66 [some (.inr (.inr (some p))), some (.inl v1), some (.inl v2), some (.inl v3), some (.inl v4)] [.inl 1] h) := (zx_unfold zblk xs 10 56 _ rfl _ _ _).trans rfl
theorem e_M_signal_65 (xs : List Int) (p : Nat) (v1 : Int) (v2 : Int) (v3 : Int) (v4 : Int) (h : zH) : zx zblk xs 10 65 [some (.inr (.inr (some p))), some (.inl v1), some (.inl v2), some (.inl v3), some (.inl v4)] [] h = zx zblk xs 10 66 [some (.inr (.inr (some p))), some (.inl v1), some (.inl v2), some (.inl v3), some (.inl v4)] [.inl 0] h := (zx_unfold zblk xs 10 65 _ rfl _ _ _).trans rfl
theorem e_M_signal_66 (xs : List Int) (p : Nat) (v1 : Int) (v2 : Int) (v3 : Int) (v4 : Int) (s0 : Int) (h : zH) : zx zblk xs 10 66 [some (.inr (.inr (some p))), some (.inl v1), some (.inl v2), some (.inl v3), some (.inl v4)] [.inl s0] h = (if zw s0 ≠ 0 then zx zblk xs 10 76 [some (.inr (.inr (some p))), some (.inl v1), some (.inl v2), some (.inl v3), some (.inl v4)] [] h else some (some (.inl (-101)), h)) := (zx_unfold zblk xs 10 66 _ rfl _ _ _).trans rfl
theorem e_M_signal_76 (xs : List Int) (p : Nat) (v1 : Int) (v2 : Int) (v3 : Int) (v4 : Int) (h : zH) : zx zblk xs 10 76 [some (.inr (.inr (some p))), some (.inl v1), some (.inl v2), some (.inl v3), some (.inl v4)] [] h = (zci (zx zblk xs 2 0 [some (.inr (.inl (zw v3))), none, some (.inr (.inl 1)), none, some (.inr (.inl 9)), none] [] h) fun r2 h1 => (if zw r2 = 0 then zx zblk xs 10 101 [] [] h1 else (zci (zx zblk xs 2 0 [some (.inr (.inl (zw v4))), none, some (.inr (.inl 0)), none, some (.inr (.inl 9)), none] [] h1) fun r4 h3 => (if zw r4 ≠ 0 then zx zblk xs 10 104 [some (.inr (.inr (some p))), some (.inl v1), some (.inl v2), some (.inl v3), some (.inl v4)] [] h3 else zx zblk xs 10 101 [] [] h3)))) := (zx_unfold zblk xs 10 76 _ rfl _ _ _).trans rfl
theorem e_M_signal_101 (xs : List Int)  (h : zH) : zx zblk xs 10 101 [] [] h = some (some (.inl (-102)), h) := (zx_unfold zblk xs 10 101 _ rfl _ _ _).trans rfl
theorem e_M_signal_104 (xs : List Int) (p : Nat) (v1 : Int) (v2 : Int) (v3 : Int) (v4 : Int) (h : zH) : zx zblk xs 10 104 [some (.inr (.inr (some p))), some (.inl v1), some (.inl v2), some (.inl v3), some (.inl v4)] [] h = (zgi h (some p) 7 8 fun f1 => (if zw f1 ≠ zw 8 then zx zblk xs 10 116 [some (.inr (.inr (some p))), some (.inl v1), some (.inl v2), some (.inl v3), some (.inl v4)] [] h else some (some (.inl (-104)), h))) := (zx_unfold zblk xs 10 104 _ rfl _ _ _).trans rfl
theorem e_M_signal_116 (xs : List Int) (p : Nat) (v1 : Int) (v2 : Int) (v3 : Int) (v4 : Int) (h : zH) : zx zblk xs 10 116 [some (.inr (.inr (some p))), some (.inl v1), some (.inl v2), some (.inl v3), some (.inl v4)] [] h = (zgr h (some p) 7 9 fun f1 => (zgi h (some p) 7 8 fun f2 => (zst h f1 100 (4 * f2) (.inl v1) fun h3 => (zgr h3 (some p) 7 9 fun f4 => (zgi h3 (some p) 7 8 fun f5 => (zst h3 f4 100 ((4 * f5) + 1) (.inl v2) fun h6 => (zgr h6 (some p) 7 9 fun f7 => (zgi h6 (some p) 7 8 fun f8 => (zst h6 f7 100 ((4 * f8) + 2) (.inl v3) fun h9 => (zgr h9 (some p) 7 9 fun f10 => (zgi h9 (some p) 7 8 fun f11 => (zst h9 f10 100 ((4 * f11) + 3) (.inl v4) fun h12 => (zgi h12 (some p) 7 8 fun f13 => (zpf h12 (some p) 7 8 (.inl (f13 + 1)) fun h14 => (zgi h14 (some p) 7 8 fun f15 => some (some (.inl (f15 - 1)), h14)))))))))))))))) := (zx_unfold zblk xs 10 116 _ rfl _ _ _).trans rfl
/-- MindReadersModel.isSignal(I)Z -/
noncomputable abbrev r_M_isSignal (xs : List Int) (p : Nat) (v1 : Int) (h : zH) : Option zR := zx zblk xs 11 0 [some (.inr (.inr (some p))), some (.inl v1)] [] h
theorem e_M_isSignal_0 (xs : List Int) (p : Nat) (v1 : Int) (h : zH) : zx zblk xs 11 0 [some (.inr (.inr (some p))), some (.inl v1)] [] h = (zgi h (some p) 7 8 fun f1 => (zci (zx zblk xs 2 0 [some (.inr (.inl (zw v1))), none, some (.inr (.inl 0)), none, some (.inr (.inl (zw (f1 - 1)))), none] [] h) fun r3 h2 => (if r3 = 0 ∨ r3 = 1 then some (some (.inl r3), h2) else none))) := (zx_unfold zblk xs 11 0 _ rfl _ _ _).trans rfl
/-- MindReadersModel.as(II)I -/
noncomputable abbrev r_M_as (xs : List Int) (p : Nat) (v1 : Int) (v2 : Int) (h : zH) : Option zR := zx zblk xs 12 0 [some (.inr (.inr (some p))), some (.inl v1), some (.inl v2)] [] h
theorem e_M_as_0 (xs : List Int) (p : Nat) (v1 : Int) (v2 : Int) (h : zH) : zx zblk xs 12 0 [some (.inr (.inr (some p))), some (.inl v1), some (.inl v2)] [] h = (zck h (some p) 7 (zci (zx zblk xs 11 0 [some (.inr (.inr (some p))), some (.inl v1)] [] h) fun r2 h1 => (if zw r2 ≠ 0 then zx zblk xs 12 11 [some (.inr (.inr (some p))), some (.inl v1), some (.inl v2)] [] h1 else some (some (.inl (-101)), h1)))) := (zx_unfold zblk xs 12 0 _ rfl _ _ _).trans rfl
theorem e_M_as_11 (xs : List Int) (p : Nat) (v1 : Int) (v2 : Int) (h : zH) : zx zblk xs 12 11 [some (.inr (.inr (some p))), some (.inl v1), some (.inl v2)] [] h = (zci (zx zblk xs 2 0 [some (.inr (.inl (zw v2))), none, some (.inr (.inl 0)), none, some (.inr (.inl 4)), none] [] h) fun r2 h1 => (if zw r2 ≠ 0 then zx zblk xs 12 26 [some (.inr (.inr (some p))), some (.inl v1), some (.inl v2)] [] h1 else some (some (.inl (-102)), h1))) := (zx_unfold zblk xs 12 11 _ rfl _ _ _).trans rfl
theorem e_M_as_26 (xs : List Int) (p : Nat) (v1 : Int) (v2 : Int) (h : zH) : zx zblk xs 12 26 [some (.inr (.inr (some p))), some (.inl v1), some (.inl v2)] [] h = (zgr h (some p) 7 9 fun f1 => (zai xs h f1 (4 * v1) fun a2 => (if zw v2 = 0 then zx zblk xs 12 54 [none, some (.inl v1)] [] h else (if zw v2 = zw a2 then zx zblk xs 12 54 [none, some (.inl v1)] [] h else (if zw v2 ≠ zw 1 then zx zblk xs 12 58 [none, some (.inl v1)] [] h else (if zw a2 ≠ zw 2 then zx zblk xs 12 58 [none, some (.inl v1)] [] h else zx zblk xs 12 54 [none, some (.inl v1)] [] h)))))) := (zx_unfold zblk xs 12 26 _ rfl _ _ _).trans rfl
theorem e_M_as_54 (xs : List Int) (v1 : Int) (h : zH) : zx zblk xs 12 54 [none, some (.inl v1)] [] h = zx zblk xs 12 59 [none, some (.inl v1)] [.inl 1] h := (zx_unfold zblk xs 12 54 _ rfl _ _ _).trans rfl
theorem e_M_as_58 (xs : List Int) (v1 : Int) (h : zH) : zx zblk xs 12 58 [none, some (.inl v1)] [] h = zx zblk xs 12 59 [none, some (.inl v1)] [.inl 0] h := (zx_unfold zblk xs 12 58 _ rfl _ _ _).trans rfl
theorem e_M_as_59 (xs : List Int) (v1 : Int) (s0 : Int) (h : zH) : zx zblk xs 12 59 [none, some (.inl v1)] [.inl s0] h = (if zw s0 = 0 then zx zblk xs 12 70 [] [] h else zx zblk xs 12 71 [] [.inl v1] h) := (zx_unfold zblk xs 12 59 _ rfl _ _ _).trans rfl
theorem e_M_as_70 (xs : List Int)  (h : zH) : zx zblk xs 12 70 [] [] h = zx zblk xs 12 71 [] [.inl (-1)] h := (zx_unfold zblk xs 12 70 _ rfl _ _ _).trans rfl
theorem e_M_as_71 (xs : List Int) (s0 : Int) (h : zH) : zx zblk xs 12 71 [] [.inl s0] h = some (some (.inl s0), h) := (zx_unfold zblk xs 12 71 _ rfl _ _ _).trans rfl
/-- MindReadersModel.about(II)I -/
noncomputable abbrev r_M_about (xs : List Int) (p : Nat) (v1 : Int) (v2 : Int) (h : zH) : Option zR := zx zblk xs 13 0 [some (.inr (.inr (some p))), some (.inl v1), some (.inl v2)] [] h
theorem e_M_about_0 (xs : List Int) (p : Nat) (v1 : Int) (v2 : Int) (h : zH) : zx zblk xs 13 0 [some (.inr (.inr (some p))), some (.inl v1), some (.inl v2)] [] h = (zck h (some p) 7 (zci (zx zblk xs 11 0 [some (.inr (.inr (some p))), some (.inl v1)] [] h) fun r2 h1 => (if zw r2 ≠ 0 then zx zblk xs 13 11 [some (.inr (.inr (some p))), some (.inl v1), some (.inl v2)] [] h1 else some (some (.inl (-101)), h1)))) := (zx_unfold zblk xs 13 0 _ rfl _ _ _).trans rfl
theorem e_M_about_11 (xs : List Int) (p : Nat) (v1 : Int) (v2 : Int) (h : zH) : zx zblk xs 13 11 [some (.inr (.inr (some p))), some (.inl v1), some (.inl v2)] [] h = (zci (zx zblk xs 2 0 [some (.inr (.inl (zw v2))), none, some (.inr (.inl 0)), none, some (.inr (.inl 3)), none] [] h) fun r2 h1 => (if zw r2 = 0 then zx zblk xs 13 36 [] [] h1 else (zgr h1 (some p) 7 9 fun f3 => (zai xs h1 f3 ((4 * v1) + v2) fun a4 => zx zblk xs 13 38 [] [.inl a4] h1)))) := (zx_unfold zblk xs 13 11 _ rfl _ _ _).trans rfl
theorem e_M_about_36 (xs : List Int)  (h : zH) : zx zblk xs 13 36 [] [] h = zx zblk xs 13 38 [] [.inl (-102)] h := (zx_unfold zblk xs 13 36 _ rfl _ _ _).trans rfl
theorem e_M_about_38 (xs : List Int) (s0 : Int) (h : zH) : zx zblk xs 13 38 [] [.inl s0] h = some (some (.inl s0), h) := (zx_unfold zblk xs 13 38 _ rfl _ _ _).trans rfl
/-- MindReadersModel.thing(I)I -/
noncomputable abbrev r_M_thing (xs : List Int) (p : Nat) (v1 : Int) (h : zH) : Option zR := zx zblk xs 14 0 [some (.inr (.inr (some p))), some (.inl v1)] [] h
theorem e_M_thing_0 (xs : List Int) (p : Nat) (v1 : Int) (h : zH) : zx zblk xs 14 0 [some (.inr (.inr (some p))), some (.inl v1)] [] h = (zci (zx zblk xs 2 0 [some (.inr (.inl (zw v1))), none, some (.inr (.inl 1)), none, some (.inr (.inl 99)), none] [] h) fun r2 h1 => (if zw r2 ≠ 0 then zx zblk xs 14 15 [some (.inr (.inr (some p))), some (.inl v1)] [] h1 else some (some (.inl (-102)), h1))) := (zx_unfold zblk xs 14 0 _ rfl _ _ _).trans rfl
theorem e_M_thing_15 (xs : List Int) (p : Nat) (v1 : Int) (h : zH) : zx zblk xs 14 15 [some (.inr (.inr (some p))), some (.inl v1)] [] h = (zgi h (some p) 7 10 fun f1 => (if zw f1 ≠ zw 8 then zx zblk xs 14 27 [some (.inr (.inr (some p))), some (.inl v1)] [] h else some (some (.inl (-104)), h))) := (zx_unfold zblk xs 14 15 _ rfl _ _ _).trans rfl
theorem e_M_thing_27 (xs : List Int) (p : Nat) (v1 : Int) (h : zH) : zx zblk xs 14 27 [some (.inr (.inr (some p))), some (.inl v1)] [] h = (zgr h (some p) 7 11 fun f1 => (zgi h (some p) 7 10 fun f2 => (zst h f1 100 f2 (.inl v1) fun h3 => (zgi h3 (some p) 7 10 fun f4 => (zpf h3 (some p) 7 10 (.inl (f4 + 1)) fun h5 => (zgi h5 (some p) 7 10 fun f6 => some (some (.inl (f6 - 1)), h5))))))) := (zx_unfold zblk xs 14 27 _ rfl _ _ _).trans rfl
/-- MindReadersModel.isThing(I)Z -/
noncomputable abbrev r_M_isThing (xs : List Int) (p : Nat) (v1 : Int) (h : zH) : Option zR := zx zblk xs 15 0 [some (.inr (.inr (some p))), some (.inl v1)] [] h
theorem e_M_isThing_0 (xs : List Int) (p : Nat) (v1 : Int) (h : zH) : zx zblk xs 15 0 [some (.inr (.inr (some p))), some (.inl v1)] [] h = (zgi h (some p) 7 10 fun f1 => (zci (zx zblk xs 2 0 [some (.inr (.inl (zw v1))), none, some (.inr (.inl 0)), none, some (.inr (.inl (zw (f1 - 1)))), none] [] h) fun r3 h2 => (if r3 = 0 ∨ r3 = 1 then some (some (.inl r3), h2) else none))) := (zx_unfold zblk xs 15 0 _ rfl _ _ _).trans rfl
/-- MindReadersModel.weigh(II)I -/
noncomputable abbrev r_M_weigh (xs : List Int) (p : Nat) (v1 : Int) (v2 : Int) (h : zH) : Option zR := zx zblk xs 16 0 [some (.inr (.inr (some p))), some (.inl v1), some (.inl v2)] [] h
theorem e_M_weigh_0 (xs : List Int) (p : Nat) (v1 : Int) (v2 : Int) (h : zH) : zx zblk xs 16 0 [some (.inr (.inr (some p))), some (.inl v1), some (.inl v2)] [] h = (zck h (some p) 7 (zci (zx zblk xs 15 0 [some (.inr (.inr (some p))), some (.inl v1)] [] h) fun r2 h1 => (if zw r2 ≠ 0 then zx zblk xs 16 11 [some (.inr (.inr (some p))), some (.inl v1), some (.inl v2)] [] h1 else some (some (.inl (-101)), h1)))) := (zx_unfold zblk xs 16 0 _ rfl _ _ _).trans rfl
theorem e_M_weigh_11 (xs : List Int) (p : Nat) (v1 : Int) (v2 : Int) (h : zH) : zx zblk xs 16 11 [some (.inr (.inr (some p))), some (.inl v1), some (.inl v2)] [] h = (zci (zx zblk xs 2 0 [some (.inr (.inl (zw v2))), none, some (.inr (.inl 1)), none, some (.inr (.inl 99)), none] [] h) fun r2 h1 => (if zw r2 ≠ 0 then zx zblk xs 16 26 [some (.inr (.inr (some p))), some (.inl v1), some (.inl v2)] [] h1 else some (some (.inl (-102)), h1))) := (zx_unfold zblk xs 16 11 _ rfl _ _ _).trans rfl
theorem e_M_weigh_26 (xs : List Int) (p : Nat) (v1 : Int) (v2 : Int) (h : zH) : zx zblk xs 16 26 [some (.inr (.inr (some p))), some (.inl v1), some (.inl v2)] [] h = (zgr h (some p) 7 11 fun f1 => (zai xs h f1 v1 fun a2 => (zgr h (some p) 7 11 fun f3 => (zst h f3 100 v1 (.inl v2) fun h4 => some (some (.inl a2), h4))))) := (zx_unfold zblk xs 16 26 _ rfl _ _ _).trans rfl
/-- MindReadersModel.kindOf(I)I -/
noncomputable abbrev r_M_kindOf (xs : List Int) (p : Nat) (v1 : Int) (h : zH) : Option zR := zx zblk xs 17 0 [some (.inr (.inr (some p))), some (.inl v1)] [] h
theorem e_M_kindOf_0 (xs : List Int) (p : Nat) (v1 : Int) (h : zH) : zx zblk xs 17 0 [some (.inr (.inr (some p))), some (.inl v1)] [] h = (zck h (some p) 7 (zci (zx zblk xs 11 0 [some (.inr (.inr (some p))), some (.inl v1)] [] h) fun r2 h1 => (if zw r2 = 0 then zx zblk xs 17 19 [] [] h1 else (zgr h1 (some p) 7 9 fun f3 => (zai xs h1 f3 (4 * v1) fun a4 => zx zblk xs 17 20 [] [.inl a4] h1))))) := (zx_unfold zblk xs 17 0 _ rfl _ _ _).trans rfl
theorem e_M_kindOf_19 (xs : List Int)  (h : zH) : zx zblk xs 17 19 [] [] h = zx zblk xs 17 20 [] [.inl 0] h := (zx_unfold zblk xs 17 19 _ rfl _ _ _).trans rfl
theorem e_M_kindOf_20 (xs : List Int) (s0 : Int) (h : zH) : zx zblk xs 17 20 [] [.inl s0] h = some (some (.inl s0), h) := (zx_unfold zblk xs 17 20 _ rfl _ _ _).trans rfl
/-- MindReadersModel.secondsOf(I)I -/
noncomputable abbrev r_M_secondsOf (xs : List Int) (p : Nat) (v1 : Int) (h : zH) : Option zR := zx zblk xs 18 0 [some (.inr (.inr (some p))), some (.inl v1)] [] h
theorem e_M_secondsOf_0 (xs : List Int) (p : Nat) (v1 : Int) (h : zH) : zx zblk xs 18 0 [some (.inr (.inr (some p))), some (.inl v1)] [] h = (zck h (some p) 7 (zci (zx zblk xs 11 0 [some (.inr (.inr (some p))), some (.inl v1)] [] h) fun r2 h1 => (if zw r2 = 0 then zx zblk xs 18 21 [] [] h1 else (zgr h1 (some p) 7 9 fun f3 => (zai xs h1 f3 ((4 * v1) + 2) fun a4 => zx zblk xs 18 22 [] [.inl a4] h1))))) := (zx_unfold zblk xs 18 0 _ rfl _ _ _).trans rfl
theorem e_M_secondsOf_21 (xs : List Int)  (h : zH) : zx zblk xs 18 21 [] [] h = zx zblk xs 18 22 [] [.inl 1] h := (zx_unfold zblk xs 18 21 _ rfl _ _ _).trans rfl
theorem e_M_secondsOf_22 (xs : List Int) (s0 : Int) (h : zH) : zx zblk xs 18 22 [] [.inl s0] h = some (some (.inl s0), h) := (zx_unfold zblk xs 18 22 _ rfl _ _ _).trans rfl
/-- MindReadersModel.oddOf(I)I -/
noncomputable abbrev r_M_oddOf (xs : List Int) (p : Nat) (v1 : Int) (h : zH) : Option zR := zx zblk xs 19 0 [some (.inr (.inr (some p))), some (.inl v1)] [] h
theorem e_M_oddOf_0 (xs : List Int) (p : Nat) (v1 : Int) (h : zH) : zx zblk xs 19 0 [some (.inr (.inr (some p))), some (.inl v1)] [] h = (zck h (some p) 7 (zci (zx zblk xs 11 0 [some (.inr (.inr (some p))), some (.inl v1)] [] h) fun r2 h1 => (if zw r2 = 0 then zx zblk xs 19 21 [] [] h1 else (zgr h1 (some p) 7 9 fun f3 => (zai xs h1 f3 ((4 * v1) + 3) fun a4 => zx zblk xs 19 22 [] [.inl a4] h1))))) := (zx_unfold zblk xs 19 0 _ rfl _ _ _).trans rfl
theorem e_M_oddOf_21 (xs : List Int)  (h : zH) : zx zblk xs 19 21 [] [] h = zx zblk xs 19 22 [] [.inl 0] h := (zx_unfold zblk xs 19 21 _ rfl _ _ _).trans rfl
theorem e_M_oddOf_22 (xs : List Int) (s0 : Int) (h : zH) : zx zblk xs 19 22 [] [.inl s0] h = some (some (.inl s0), h) := (zx_unfold zblk xs 19 22 _ rfl _ _ _).trans rfl
/-- MindReadersModel.stand(I)V -/
noncomputable abbrev r_M_stand (xs : List Int) (p : Nat) (v1 : Int) (h : zH) : Option zR := zx zblk xs 20 0 [some (.inr (.inr (some p))), some (.inl v1)] [] h
theorem e_M_stand_0 (xs : List Int) (p : Nat) (v1 : Int) (h : zH) : zx zblk xs 20 0 [some (.inr (.inr (some p))), some (.inl v1)] [] h = (zck h (some p) 7 (zci (zx zblk xs 17 0 [some (.inr (.inr (some p))), some (.inl v1)] [] h) fun r2 h1 => (if zw 2 ≤ zw r2 then zx zblk xs 20 34 [some (.inr (.inr (some p))), some (.inl v1), some (.inl r2)] [] h1 else (zgr h1 (some p) 7 12 fun f3 => (zgi h1 (some p) 7 13 fun f4 => (zst h1 f3 100 f4 (.inl v1) fun h5 => (zgi h5 (some p) 7 13 fun f6 => (zpf h5 (some p) 7 13 (.inl (f6 + 1)) fun h7 => zx zblk xs 20 114 [] [] h7)))))))) := (zx_unfold zblk xs 20 0 _ rfl _ _ _).trans rfl
theorem e_M_stand_34 (xs : List Int) (p : Nat) (v1 : Int) (v2 : Int) (h : zH) : zx zblk xs 20 34 [some (.inr (.inr (some p))), some (.inl v1), some (.inl v2)] [] h = (if zw v2 ≠ zw 2 then zx zblk xs 20 92 [some (.inr (.inr (some p))), none, some (.inl v2)] [] h else (zgr h (some p) 7 12 fun f1 => (zgi h (some p) 7 13 fun f2 => (zgr h (some p) 7 9 fun f3 => (zai xs h f3 ((4 * v1) + 1) fun a4 => (zst h f1 100 f2 (.inl a4) fun h5 => (zgr h5 (some p) 7 12 fun f6 => (zgi h5 (some p) 7 13 fun f7 => (zgr h5 (some p) 7 9 fun f8 => (zai xs h5 f8 ((4 * v1) + 1) fun a9 => (zst h5 f6 100 (f7 + 1) (.inl a9) fun h10 => (zgi h10 (some p) 7 13 fun f11 => (zpf h10 (some p) 7 13 (.inl (f11 + 2)) fun h12 => zx zblk xs 20 114 [] [] h12))))))))))))) := (zx_unfold zblk xs 20 34 _ rfl _ _ _).trans rfl
theorem e_M_stand_92 (xs : List Int) (p : Nat) (v2 : Int) (h : zH) : zx zblk xs 20 92 [some (.inr (.inr (some p))), none, some (.inl v2)] [] h = (if zw v2 ≠ zw 4 then zx zblk xs 20 114 [] [] h else (zgi h (some p) 7 13 fun f1 => (if zw f1 ≤ 0 then zx zblk xs 20 114 [] [] h else (zgi h (some p) 7 13 fun f2 => (zpf h (some p) 7 13 (.inl (f2 - 1)) fun h3 => zx zblk xs 20 114 [] [] h3))))) := (zx_unfold zblk xs 20 92 _ rfl _ _ _).trans rfl
theorem e_M_stand_114 (xs : List Int)  (h : zH) : zx zblk xs 20 114 [] [] h = some (none, h) := (zx_unfold zblk xs 20 114 _ rfl _ _ _).trans rfl
/-- MindReadersModel.layPlain(III)V -/
noncomputable abbrev r_M_layPlain (xs : List Int) (p : Nat) (v1 : Int) (v2 : Int) (v3 : Int) (h : zH) : Option zR := zx zblk xs 21 0 [some (.inr (.inr (some p))), some (.inl v1), some (.inl v2), some (.inl v3)] [] h
theorem e_M_layPlain_0 (xs : List Int) (p : Nat) (v1 : Int) (v2 : Int) (v3 : Int) (h : zH) : zx zblk xs 21 0 [some (.inr (.inr (some p))), some (.inl v1), some (.inl v2), some (.inl v3)] [] h = (zpf h (some p) 7 13 (.inl 0) fun h1 => zx zblk xs 21 19 [some (.inr (.inr (some p))), none, none, some (.inl v3), some (.inl ((48 * v1) + (6 * v2))), some (.inl 1)] [] h1) := (zx_unfold zblk xs 21 0 _ rfl _ _ _).trans rfl
theorem e_M_layPlain_19 (xs : List Int) (p : Nat) (v3 : Int) (v4 : Int) (v5 : Int) (h : zH) : zx zblk xs 21 19 [some (.inr (.inr (some p))), none, none, some (.inl v3), some (.inl v4), some (.inl v5)] [] h = (zgr h (some p) 7 7 fun f1 => (zai xs h f1 v4 fun a2 => (if zw a2 < zw v5 then zx zblk xs 21 68 [] [] h else (zgr h (some p) 7 7 fun f3 => (zai xs h f3 (v4 + v5) fun a4 => (if zw (zand (zshr v3 a4) 1) ≠ 0 then zx zblk xs 21 62 [some (.inr (.inr (some p))), none, none, some (.inl v3), some (.inl v4), some (.inl v5)] [] h else (zgr h (some p) 7 7 fun f5 => (zai xs h f5 (v4 + v5) fun a6 => (zck h (some p) 7 (zcv (zx zblk xs 20 0 [some (.inr (.inr (some p))), some (.inl a6)] [] h) fun h7 => zx zblk xs 21 62 [some (.inr (.inr (some p))), none, none, some (.inl v3), some (.inl v4), some (.inl v5)] [] h7)))))))))) := (zx_unfold zblk xs 21 19 _ rfl _ _ _).trans rfl
theorem e_M_layPlain_62 (xs : List Int) (p : Nat) (v3 : Int) (v4 : Int) (v5 : Int) (h : zH) : zx zblk xs 21 62 [some (.inr (.inr (some p))), none, none, some (.inl v3), some (.inl v4), some (.inl v5)] [] h = zx zblk xs 21 19 [some (.inr (.inr (some p))), none, none, some (.inl v3), some (.inl v4), some (.inl (v5 + 1))] [] h := (zx_unfold zblk xs 21 62 _ rfl _ _ _).trans rfl
theorem e_M_layPlain_68 (xs : List Int)  (h : zH) : zx zblk xs 21 68 [] [] h = some (none, h) := (zx_unfold zblk xs 21 68 _ rfl _ _ _).trans rfl
/-- MindReadersModel.layAll(II)V -/
noncomputable abbrev r_M_layAll (xs : List Int) (p : Nat) (v1 : Int) (v2 : Int) (h : zH) : Option zR := zx zblk xs 22 0 [some (.inr (.inr (some p))), some (.inl v1), some (.inl v2)] [] h
theorem e_M_layAll_0 (xs : List Int) (p : Nat) (v1 : Int) (v2 : Int) (h : zH) : zx zblk xs 22 0 [some (.inr (.inr (some p))), some (.inl v1), some (.inl v2)] [] h = zx zblk xs 22 2 [some (.inr (.inr (some p))), some (.inl v1), some (.inl v2), some (.inl 0)] [] h := (zx_unfold zblk xs 22 0 _ rfl _ _ _).trans rfl
theorem e_M_layAll_2 (xs : List Int) (p : Nat) (v1 : Int) (v2 : Int) (v3 : Int) (h : zH) : zx zblk xs 22 2 [some (.inr (.inr (some p))), some (.inl v1), some (.inl v2), some (.inl v3)] [] h = (zgr h (some p) 7 6 fun f1 => (zai xs h f1 v1 fun a2 => (if zw a2 ≤ zw v3 then zx zblk xs 22 77 [] [] h else (zck h (some p) 7 (zcv (zx zblk xs 21 0 [some (.inr (.inr (some p))), some (.inl v1), some (.inl v3), some (.inl v2)] [] h) fun h3 => (zgr h3 (some p) 7 14 fun f4 => (zgi h3 (some p) 7 13 fun f5 => (zst h3 f4 100 (11 * v3) (.inl f5) fun h6 => zx zblk xs 22 35 [some (.inr (.inr (some p))), some (.inl v1), some (.inl v2), some (.inl v3), some (.inl 0)] [] h6)))))))) := (zx_unfold zblk xs 22 2 _ rfl _ _ _).trans rfl
theorem e_M_layAll_35 (xs : List Int) (p : Nat) (v1 : Int) (v2 : Int) (v3 : Int) (v4 : Int) (h : zH) : zx zblk xs 22 35 [some (.inr (.inr (some p))), some (.inl v1), some (.inl v2), some (.inl v3), some (.inl v4)] [] h = (zgi h (some p) 7 13 fun f1 => (if zw f1 ≤ zw v4 then zx zblk xs 22 71 [some (.inr (.inr (some p))), some (.inl v1), some (.inl v2), some (.inl v3)] [] h else (zgr h (some p) 7 14 fun f2 => (zgr h (some p) 7 12 fun f3 => (zai xs h f3 v4 fun a4 => (zst h f2 100 (((11 * v3) + 1) + v4) (.inl a4) fun h5 => zx zblk xs 22 35 [some (.inr (.inr (some p))), some (.inl v1), some (.inl v2), some (.inl v3), some (.inl (v4 + 1))] [] h5)))))) := (zx_unfold zblk xs 22 35 _ rfl _ _ _).trans rfl
theorem e_M_layAll_71 (xs : List Int) (p : Nat) (v1 : Int) (v2 : Int) (v3 : Int) (h : zH) : zx zblk xs 22 71 [some (.inr (.inr (some p))), some (.inl v1), some (.inl v2), some (.inl v3)] [] h = zx zblk xs 22 2 [some (.inr (.inr (some p))), some (.inl v1), some (.inl v2), some (.inl (v3 + 1))] [] h := (zx_unfold zblk xs 22 71 _ rfl _ _ _).trans rfl
theorem e_M_layAll_77 (xs : List Int)  (h : zH) : zx zblk xs 22 77 [] [] h = some (none, h) := (zx_unfold zblk xs 22 77 _ rfl _ _ _).trans rfl
/-- MindReadersModel.longOf(II)I -/
noncomputable abbrev r_M_longOf (xs : List Int) (p : Nat) (v1 : Int) (v2 : Int) (h : zH) : Option zR := zx zblk xs 23 0 [some (.inr (.inr (some p))), some (.inl v1), some (.inl v2)] [] h
theorem e_M_longOf_0 (xs : List Int) (p : Nat) (v1 : Int) (v2 : Int) (h : zH) : zx zblk xs 23 0 [some (.inr (.inr (some p))), some (.inl v1), some (.inl v2)] [] h = zx zblk xs 23 16 [some (.inr (.inr (some p))), none, none, some (.inl ((48 * v1) + (6 * v2))), some (.inl 0), some (.inl 1)] [] h := (zx_unfold zblk xs 23 0 _ rfl _ _ _).trans rfl
theorem e_M_longOf_16 (xs : List Int) (p : Nat) (v3 : Int) (v4 : Int) (v5 : Int) (h : zH) : zx zblk xs 23 16 [some (.inr (.inr (some p))), none, none, some (.inl v3), some (.inl v4), some (.inl v5)] [] h = (zgr h (some p) 7 7 fun f1 => (zai xs h f1 v3 fun a2 => (if zw a2 < zw v5 then zx zblk xs 23 51 [none, none, none, none, some (.inl v4)] [] h else (zgr h (some p) 7 7 fun f3 => (zai xs h f3 (v3 + v5) fun a4 => (zck h (some p) 7 (zci (zx zblk xs 18 0 [some (.inr (.inr (some p))), some (.inl a4)] [] h) fun r6 h5 => zx zblk xs 23 16 [some (.inr (.inr (some p))), none, none, some (.inl v3), some (.inl (v4 + r6)), some (.inl (v5 + 1))] [] h5))))))) := (zx_unfold zblk xs 23 16 _ rfl _ _ _).trans rfl
theorem e_M_longOf_51 (xs : List Int) (v4 : Int) (h : zH) : zx zblk xs 23 51 [none, none, none, none, some (.inl v4)] [] h = some (some (.inl v4), h) := (zx_unfold zblk xs 23 51 _ rfl _ _ _).trans rfl
/-- MindReadersModel.speechOf(III)I -/
noncomputable abbrev r_M_speechOf (xs : List Int) (p : Nat) (v1 : Int) (v2 : Int) (v3 : Int) (h : zH) : Option zR := zx zblk xs 24 0 [some (.inr (.inr (some p))), some (.inl v1), some (.inl v2), some (.inl v3)] [] h
theorem e_M_speechOf_0 (xs : List Int) (p : Nat) (v1 : Int) (v2 : Int) (v3 : Int) (h : zH) : zx zblk xs 24 0 [some (.inr (.inr (some p))), some (.inl v1), some (.inl v2), some (.inl v3)] [] h = (zci (zx zblk xs 2 0 [some (.inr (.inl (zw v3))), none, some (.inr (.inl 0)), none, some (.inr (.inl 5)), none] [] h) fun r2 h1 => (if zw r2 = 0 then zx zblk xs 24 48 [some (.inr (.inr (some p))), some (.inl v1), some (.inl v2), some (.inl v3)] [] h1 else (zgr h1 (some p) 7 7 fun f3 => (zai xs h1 f3 ((48 * v1) + (6 * v2)) fun a4 => (if zw a4 < zw v3 then zx zblk xs 24 46 [] [] h1 else (zgr h1 (some p) 7 7 fun f5 => (zai xs h1 f5 (((48 * v1) + (6 * v2)) + v3) fun a6 => zx zblk xs 24 47 [] [.inl a6] h1))))))) := (zx_unfold zblk xs 24 0 _ rfl _ _ _).trans rfl
theorem e_M_speechOf_46 (xs : List Int)  (h : zH) : zx zblk xs 24 46 [] [] h = zx zblk xs 24 47 [] [.inl (-1)] h := (zx_unfold zblk xs 24 46 _ rfl _ _ _).trans rfl
theorem e_M_speechOf_47 (xs : List Int) (s0 : Int) (h : zH) : zx zblk xs 24 47 [] [.inl s0] h = some (some (.inl s0), h) := (zx_unfold zblk xs 24 47 _ rfl _ _ _).trans rfl
theorem e_M_speechOf_48 (xs : List Int) (p : Nat) (v1 : Int) (v2 : Int) (v3 : Int) (h : zH) : zx zblk xs 24 48 [some (.inr (.inr (some p))), some (.inl v1), some (.inl v2), some (.inl v3)] [] h = (zck h (some p) 7 (zcv (zx zblk xs 21 0 [some (.inr (.inr (some p))), some (.inl v1), some (.inl v2), some (.inl 0)] [] h) fun h1 => (zci (zx zblk xs 2 0 [some (.inr (.inl (zw v3))), none, some (.inr (.inl 11)), none, some (.inr (.inl 20)), none] [] h1) fun r3 h2 => (if zw r3 = 0 then zx zblk xs 24 94 [some (.inr (.inr (some p))), some (.inl v1), some (.inl v2), some (.inl v3)] [] h2 else (zgi h2 (some p) 7 13 fun f4 => (if zw f4 ≤ zw (v3 - 11) then zx zblk xs 24 92 [] [] h2 else (zgr h2 (some p) 7 12 fun f5 => (zai xs h2 f5 (v3 - 11) fun a6 => zx zblk xs 24 93 [] [.inl a6] h2)))))))) := (zx_unfold zblk xs 24 48 _ rfl _ _ _).trans rfl
theorem e_M_speechOf_92 (xs : List Int)  (h : zH) : zx zblk xs 24 92 [] [] h = zx zblk xs 24 93 [] [.inl (-1)] h := (zx_unfold zblk xs 24 92 _ rfl _ _ _).trans rfl
theorem e_M_speechOf_93 (xs : List Int) (s0 : Int) (h : zH) : zx zblk xs 24 93 [] [.inl s0] h = some (some (.inl s0), h) := (zx_unfold zblk xs 24 93 _ rfl _ _ _).trans rfl
theorem e_M_speechOf_94 (xs : List Int) (p : Nat) (v1 : Int) (v2 : Int) (v3 : Int) (h : zH) : zx zblk xs 24 94 [some (.inr (.inr (some p))), some (.inl v1), some (.inl v2), some (.inl v3)] [] h = (if zw v3 ≠ zw 10 then zx zblk xs 24 107 [some (.inr (.inr (some p))), some (.inl v1), some (.inl v2), some (.inl v3)] [] h else (zgi h (some p) 7 13 fun f1 => zx zblk xs 24 124 [] [.inl f1] h)) := (zx_unfold zblk xs 24 94 _ rfl _ _ _).trans rfl
theorem e_M_speechOf_107 (xs : List Int) (p : Nat) (v1 : Int) (v2 : Int) (v3 : Int) (h : zH) : zx zblk xs 24 107 [some (.inr (.inr (some p))), some (.inl v1), some (.inl v2), some (.inl v3)] [] h = (if zw v3 ≠ zw 30 then zx zblk xs 24 122 [] [] h else (zck h (some p) 7 (zci (zx zblk xs 23 0 [some (.inr (.inr (some p))), some (.inl v1), some (.inl v2)] [] h) fun r2 h1 => zx zblk xs 24 124 [] [.inl r2] h1))) := (zx_unfold zblk xs 24 107 _ rfl _ _ _).trans rfl
theorem e_M_speechOf_122 (xs : List Int)  (h : zH) : zx zblk xs 24 122 [] [] h = zx zblk xs 24 124 [] [.inl (-102)] h := (zx_unfold zblk xs 24 122 _ rfl _ _ _).trans rfl
theorem e_M_speechOf_124 (xs : List Int) (s0 : Int) (h : zH) : zx zblk xs 24 124 [] [.inl s0] h = some (some (.inl s0), h) := (zx_unfold zblk xs 24 124 _ rfl _ _ _).trans rfl
/-- MindReadersModel.speech(III)I -/
noncomputable abbrev r_M_speech (xs : List Int) (p : Nat) (v1 : Int) (v2 : Int) (v3 : Int) (h : zH) : Option zR := zx zblk xs 25 0 [some (.inr (.inr (some p))), some (.inl v1), some (.inl v2), some (.inl v3)] [] h
theorem e_M_speech_0 (xs : List Int) (p : Nat) (v1 : Int) (v2 : Int) (v3 : Int) (h : zH) : zx zblk xs 25 0 [some (.inr (.inr (some p))), some (.inl v1), some (.inl v2), some (.inl v3)] [] h = (zck h (some p) 7 (zci (zx zblk xs 9 0 [some (.inr (.inr (some p))), some (.inl v1)] [] h) fun r2 h1 => (if zw r2 = 0 then zx zblk xs 25 26 [] [] h1 else (zgr h1 (some p) 7 6 fun f3 => (zai xs h1 f3 v1 fun a4 => (zci (zx zblk xs 2 0 [some (.inr (.inl (zw v2))), none, some (.inr (.inl 0)), none, some (.inr (.inl (zw (a4 - 1)))), none] [] h1) fun r6 h5 => (if zw r6 ≠ 0 then zx zblk xs 25 29 [some (.inr (.inr (some p))), some (.inl v1), some (.inl v2), some (.inl v3)] [] h5 else zx zblk xs 25 26 [] [] h5))))))) := (zx_unfold zblk xs 25 0 _ rfl _ _ _).trans rfl
theorem e_M_speech_26 (xs : List Int)  (h : zH) : zx zblk xs 25 26 [] [] h = some (some (.inl (-101)), h) := (zx_unfold zblk xs 25 26 _ rfl _ _ _).trans rfl
theorem e_M_speech_29 (xs : List Int) (p : Nat) (v1 : Int) (v2 : Int) (v3 : Int) (h : zH) : zx zblk xs 25 29 [some (.inr (.inr (some p))), some (.inl v1), some (.inl v2), some (.inl v3)] [] h = (zck h (some p) 7 (zci (zx zblk xs 24 0 [some (.inr (.inr (some p))), some (.inl v1), some (.inl v2), some (.inl v3)] [] h) fun r2 h1 => some (some (.inl r2), h1))) := (zx_unfold zblk xs 25 29 _ rfl _ _ _).trans rfl
/-- MindReadersModel.isStart(III)Z -/
noncomputable abbrev r_M_isStart (xs : List Int) (p : Nat) (v1 : Int) (v2 : Int) (v3 : Int) (h : zH) : Option zR := zx zblk xs 26 0 [some (.inr (.inr (some p))), some (.inl v1), some (.inl v2), some (.inl v3)] [] h
theorem e_M_isStart_0 (xs : List Int) (p : Nat) (v1 : Int) (v2 : Int) (v3 : Int) (h : zH) : zx zblk xs 26 0 [some (.inr (.inr (some p))), some (.inl v1), some (.inl v2), some (.inl v3)] [] h = (zgr h (some p) 7 14 fun f1 => (zai xs h f1 (11 * v1) fun a2 => (if zw a2 < zw v3 then zx zblk xs 26 30 [some (.inr (.inr (some p))), some (.inl v1), some (.inl v2), some (.inl v3)] [] h else (zgr h (some p) 7 14 fun f3 => (zai xs h f3 (11 * v2) fun a4 => (if zw a4 < zw v3 then zx zblk xs 26 30 [some (.inr (.inr (some p))), some (.inl v1), some (.inl v2), some (.inl v3)] [] h else zx zblk xs 26 31 [some (.inr (.inr (some p))), some (.inl v1), some (.inl v2), some (.inl v3)] [.inl 1] h)))))) := (zx_unfold zblk xs 26 0 _ rfl _ _ _).trans rfl
theorem e_M_isStart_30 (xs : List Int) (p : Nat) (v1 : Int) (v2 : Int) (v3 : Int) (h : zH) : zx zblk xs 26 30 [some (.inr (.inr (some p))), some (.inl v1), some (.inl v2), some (.inl v3)] [] h = zx zblk xs 26 31 [some (.inr (.inr (some p))), some (.inl v1), some (.inl v2), some (.inl v3)] [.inl 0] h := (zx_unfold zblk xs 26 30 _ rfl _ _ _).trans rfl
theorem e_M_isStart_31 (xs : List Int) (p : Nat) (v1 : Int) (v2 : Int) (v3 : Int) (s0 : Int) (h : zH) : zx zblk xs 26 31 [some (.inr (.inr (some p))), some (.inl v1), some (.inl v2), some (.inl v3)] [.inl s0] h = zx zblk xs 26 36 [some (.inr (.inr (some p))), some (.inl v1), some (.inl v2), some (.inl v3), some (.inl s0), some (.inl 0)] [] h := (zx_unfold zblk xs 26 31 _ rfl _ _ _).trans rfl
theorem e_M_isStart_36 (xs : List Int) (p : Nat) (v1 : Int) (v2 : Int) (v3 : Int) (v4 : Int) (v5 : Int) (h : zH) : zx zblk xs 26 36 [some (.inr (.inr (some p))), some (.inl v1), some (.inl v2), some (.inl v3), some (.inl v4), some (.inl v5)] [] h = (if zw v3 ≤ zw v5 then zx zblk xs 26 91 [none, none, none, none, some (.inl v4)] [] h else (if zw v4 = 0 then zx zblk xs 26 91 [none, none, none, none, some (.inl v4)] [] h else (zgr h (some p) 7 14 fun f1 => (zai xs h f1 (((11 * v1) + 1) + v5) fun a2 => (zgr h (some p) 7 14 fun f3 => (zai xs h f3 (((11 * v2) + 1) + v5) fun a4 => (if zw a2 ≠ zw a4 then zx zblk xs 26 82 [some (.inr (.inr (some p))), some (.inl v1), some (.inl v2), some (.inl v3), none, some (.inl v5)] [] h else zx zblk xs 26 83 [some (.inr (.inr (some p))), some (.inl v1), some (.inl v2), some (.inl v3), none, some (.inl v5)] [.inl 1] h))))))) := (zx_unfold zblk xs 26 36 _ rfl _ _ _).trans rfl
theorem e_M_isStart_82 (xs : List Int) (p : Nat) (v1 : Int) (v2 : Int) (v3 : Int) (v5 : Int) (h : zH) : zx zblk xs 26 82 [some (.inr (.inr (some p))), some (.inl v1), some (.inl v2), some (.inl v3), none, some (.inl v5)] [] h = zx zblk xs 26 83 [some (.inr (.inr (some p))), some (.inl v1), some (.inl v2), some (.inl v3), none, some (.inl v5)] [.inl 0] h := (zx_unfold zblk xs 26 82 _ rfl _ _ _).trans rfl
theorem e_M_isStart_83 (xs : List Int) (p : Nat) (v1 : Int) (v2 : Int) (v3 : Int) (v5 : Int) (s0 : Int) (h : zH) : zx zblk xs 26 83 [some (.inr (.inr (some p))), some (.inl v1), some (.inl v2), some (.inl v3), none, some (.inl v5)] [.inl s0] h = zx zblk xs 26 36 [some (.inr (.inr (some p))), some (.inl v1), some (.inl v2), some (.inl v3), some (.inl s0), some (.inl (v5 + 1))] [] h := (zx_unfold zblk xs 26 83 _ rfl _ _ _).trans rfl
theorem e_M_isStart_91 (xs : List Int) (v4 : Int) (h : zH) : zx zblk xs 26 91 [none, none, none, none, some (.inl v4)] [] h = (if v4 = 0 ∨ v4 = 1 then some (some (.inl v4), h) else none) := (zx_unfold zblk xs 26 91 _ rfl _ _ _).trans rfl
/-- MindReadersModel.isAlike(II)Z -/
noncomputable abbrev r_M_isAlike (xs : List Int) (p : Nat) (v1 : Int) (v2 : Int) (h : zH) : Option zR := zx zblk xs 27 0 [some (.inr (.inr (some p))), some (.inl v1), some (.inl v2)] [] h
theorem e_M_isAlike_0 (xs : List Int) (p : Nat) (v1 : Int) (v2 : Int) (h : zH) : zx zblk xs 27 0 [some (.inr (.inr (some p))), some (.inl v1), some (.inl v2)] [] h = (zgr h (some p) 7 14 fun f1 => (zai xs h f1 (11 * v1) fun a2 => (zgr h (some p) 7 14 fun f3 => (zai xs h f3 (11 * v2) fun a4 => (if zw a2 ≠ zw a4 then zx zblk xs 27 43 [] [] h else (zgr h (some p) 7 14 fun f5 => (zai xs h f5 (11 * v1) fun a6 => (zck h (some p) 7 (zci (zx zblk xs 26 0 [some (.inr (.inr (some p))), some (.inl v1), some (.inl v2), some (.inl a6)] [] h) fun r8 h7 => (if zw r8 = 0 then zx zblk xs 27 43 [] [] h7 else zx zblk xs 27 44 [] [.inl 1] h7)))))))))) := (zx_unfold zblk xs 27 0 _ rfl _ _ _).trans rfl
theorem e_M_isAlike_43 (xs : List Int)  (h : zH) : zx zblk xs 27 43 [] [] h = zx zblk xs 27 44 [] [.inl 0] h := (zx_unfold zblk xs 27 43 _ rfl _ _ _).trans rfl
theorem e_M_isAlike_44 (xs : List Int) (s0 : Int) (h : zH) : zx zblk xs 27 44 [] [.inl s0] h = (if s0 = 0 ∨ s0 = 1 then some (some (.inl s0), h) else none) := (zx_unfold zblk xs 27 44 _ rfl _ _ _).trans rfl
/-- MindReadersModel.layPage()Z -/
noncomputable abbrev r_M_layPage (xs : List Int) (p : Nat) (h : zH) : Option zR := zx zblk xs 28 0 [some (.inr (.inr (some p)))] [] h
theorem e_M_layPage_0 (xs : List Int) (p : Nat) (h : zH) : zx zblk xs 28 0 [some (.inr (.inr (some p)))] [] h = (zpf h (some p) 7 13 (.inl 0) fun h1 => zx zblk xs 28 9 [some (.inr (.inr (some p))), some (.inl 1), some (.inl 0)] [] h1) := (zx_unfold zblk xs 28 0 _ rfl _ _ _).trans rfl
theorem e_M_layPage_9 (xs : List Int) (p : Nat) (v1 : Int) (v2 : Int) (h : zH) : zx zblk xs 28 9 [some (.inr (.inr (some p))), some (.inl v1), some (.inl v2)] [] h = (zgi h (some p) 7 1 fun f1 => (if zw f1 ≤ zw v2 then zx zblk xs 28 61 [none, some (.inl v1)] [] h else (if zw v1 = 0 then zx zblk xs 28 61 [none, some (.inl v1)] [] h else (zgr h (some p) 7 0 fun f2 => (zai xs h f2 v2 fun a3 => (zci (zx zblk xs 2 0 [some (.inr (.inl (zw a3))), none, some (.inr (.inl 97)), none, some (.inr (.inl 104)), none] [] h) fun r5 h4 => (if zw r5 = 0 then zx zblk xs 28 55 [some (.inr (.inr (some p))), some (.inl r5), some (.inl v2)] [] h4 else (zgr h4 (some p) 7 0 fun f6 => (zai xs h4 f6 v2 fun a7 => (zck h4 (some p) 7 (zcv (zx zblk xs 20 0 [some (.inr (.inr (some p))), some (.inl (a7 - 97))] [] h4) fun h8 => zx zblk xs 28 55 [some (.inr (.inr (some p))), some (.inl r5), some (.inl v2)] [] h8))))))))))) := (zx_unfold zblk xs 28 9 _ rfl _ _ _).trans rfl
theorem e_M_layPage_55 (xs : List Int) (p : Nat) (v1 : Int) (v2 : Int) (h : zH) : zx zblk xs 28 55 [some (.inr (.inr (some p))), some (.inl v1), some (.inl v2)] [] h = zx zblk xs 28 9 [some (.inr (.inr (some p))), some (.inl v1), some (.inl (v2 + 1))] [] h := (zx_unfold zblk xs 28 55 _ rfl _ _ _).trans rfl
theorem e_M_layPage_61 (xs : List Int) (v1 : Int) (h : zH) : zx zblk xs 28 61 [none, some (.inl v1)] [] h = (if v1 = 0 ∨ v1 = 1 then some (some (.inl v1), h) else none) := (zx_unfold zblk xs 28 61 _ rfl _ _ _).trans rfl
/-- MindReadersModel.differs(I)I -/
noncomputable abbrev r_M_differs (xs : List Int) (p : Nat) (v1 : Int) (h : zH) : Option zR := zx zblk xs 29 0 [some (.inr (.inr (some p))), some (.inl v1)] [] h
theorem e_M_differs_0 (xs : List Int) (p : Nat) (v1 : Int) (h : zH) : zx zblk xs 29 0 [some (.inr (.inr (some p))), some (.inl v1)] [] h = (zgr h (some p) 7 14 fun f1 => (zai xs h f1 (11 * v1) fun a2 => (zgi h (some p) 7 13 fun f3 => (if zw a2 = zw f3 then zx zblk xs 29 19 [some (.inr (.inr (some p))), some (.inl v1)] [] h else some (some (.inl 1000000), h))))) := (zx_unfold zblk xs 29 0 _ rfl _ _ _).trans rfl
theorem e_M_differs_19 (xs : List Int) (p : Nat) (v1 : Int) (h : zH) : zx zblk xs 29 19 [some (.inr (.inr (some p))), some (.inl v1)] [] h = zx zblk xs 29 23 [some (.inr (.inr (some p))), some (.inl v1), some (.inl 0), some (.inl 0)] [] h := (zx_unfold zblk xs 29 19 _ rfl _ _ _).trans rfl
theorem e_M_differs_23 (xs : List Int) (p : Nat) (v1 : Int) (v2 : Int) (v3 : Int) (h : zH) : zx zblk xs 29 23 [some (.inr (.inr (some p))), some (.inl v1), some (.inl v2), some (.inl v3)] [] h = (zgi h (some p) 7 13 fun f1 => (if zw f1 ≤ zw v3 then zx zblk xs 29 67 [none, none, some (.inl v2)] [] h else (zgr h (some p) 7 14 fun f2 => (zai xs h f2 (((11 * v1) + 1) + v3) fun a3 => (zgr h (some p) 7 12 fun f4 => (zai xs h f4 v3 fun a5 => (if zw a3 ≠ zw a5 then zx zblk xs 29 58 [some (.inr (.inr (some p))), some (.inl v1), none, some (.inl v3)] [.inl v2] h else zx zblk xs 29 59 [some (.inr (.inr (some p))), some (.inl v1), none, some (.inl v3)] [.inl 0, .inl v2] h))))))) := (zx_unfold zblk xs 29 23 _ rfl _ _ _).trans rfl
theorem e_M_differs_58 (xs : List Int) (p : Nat) (v1 : Int) (v3 : Int) (s0 : Int) (h : zH) : zx zblk xs 29 58 [some (.inr (.inr (some p))), some (.inl v1), none, some (.inl v3)] [.inl s0] h = zx zblk xs 29 59 [some (.inr (.inr (some p))), some (.inl v1), none, some (.inl v3)] [.inl 1, .inl s0] h := (zx_unfold zblk xs 29 58 _ rfl _ _ _).trans rfl
theorem e_M_differs_59 (xs : List Int) (p : Nat) (v1 : Int) (v3 : Int) (s0 : Int) (s1 : Int) (h : zH) : zx zblk xs 29 59 [some (.inr (.inr (some p))), some (.inl v1), none, some (.inl v3)] [.inl s1, .inl s0] h = zx zblk xs 29 23 [some (.inr (.inr (some p))), some (.inl v1), some (.inl (s0 + s1)), some (.inl (v3 + 1))] [] h := (zx_unfold zblk xs 29 59 _ rfl _ _ _).trans rfl
theorem e_M_differs_67 (xs : List Int) (v2 : Int) (h : zH) : zx zblk xs 29 67 [none, none, some (.inl v2)] [] h = some (some (.inl v2), h) := (zx_unfold zblk xs 29 67 _ rfl _ _ _).trans rfl
/-- MindReadersModel.namedNow(I)I -/
noncomputable abbrev r_M_namedNow (xs : List Int) (p : Nat) (v1 : Int) (h : zH) : Option zR := zx zblk xs 30 0 [some (.inr (.inr (some p))), some (.inl v1)] [] h
theorem e_M_namedNow_0 (xs : List Int) (p : Nat) (v1 : Int) (h : zH) : zx zblk xs 30 0 [some (.inr (.inr (some p))), some (.inl v1)] [] h = zx zblk xs 30 8 [some (.inr (.inr (some p))), some (.inl v1), some (.inl (-1)), some (.inl 1000000), some (.inl 0)] [] h := (zx_unfold zblk xs 30 0 _ rfl _ _ _).trans rfl
theorem e_M_namedNow_8 (xs : List Int) (p : Nat) (v1 : Int) (v2 : Int) (v3 : Int) (v4 : Int) (h : zH) : zx zblk xs 30 8 [some (.inr (.inr (some p))), some (.inl v1), some (.inl v2), some (.inl v3), some (.inl v4)] [] h = (zgr h (some p) 7 6 fun f1 => (zai xs h f1 v1 fun a2 => (if zw a2 ≤ zw v4 then zx zblk xs 30 59 [none, none, some (.inl v2)] [] h else (zck h (some p) 7 (zci (zx zblk xs 29 0 [some (.inr (.inr (some p))), some (.inl v4)] [] h) fun r4 h3 => (if zw v3 ≤ zw r4 then zx zblk xs 30 38 [some (.inr (.inr (some p))), some (.inl v1), some (.inl v2), some (.inl v3), some (.inl v4), some (.inl r4)] [] h3 else zx zblk xs 30 39 [some (.inr (.inr (some p))), some (.inl v1), none, some (.inl v3), some (.inl v4), some (.inl r4)] [.inl v4] h3)))))) := (zx_unfold zblk xs 30 8 _ rfl _ _ _).trans rfl
theorem e_M_namedNow_38 (xs : List Int) (p : Nat) (v1 : Int) (v2 : Int) (v3 : Int) (v4 : Int) (v5 : Int) (h : zH) : zx zblk xs 30 38 [some (.inr (.inr (some p))), some (.inl v1), some (.inl v2), some (.inl v3), some (.inl v4), some (.inl v5)] [] h = zx zblk xs 30 39 [some (.inr (.inr (some p))), some (.inl v1), none, some (.inl v3), some (.inl v4), some (.inl v5)] [.inl v2] h := (zx_unfold zblk xs 30 38 _ rfl _ _ _).trans rfl
theorem e_M_namedNow_39 (xs : List Int) (p : Nat) (v1 : Int) (v3 : Int) (v4 : Int) (v5 : Int) (s0 : Int) (h : zH) : zx zblk xs 30 39 [some (.inr (.inr (some p))), some (.inl v1), none, some (.inl v3), some (.inl v4), some (.inl v5)] [.inl s0] h = (if zw v3 ≤ zw v5 then zx zblk xs 30 51 [some (.inr (.inr (some p))), some (.inl v1), some (.inl s0), some (.inl v3), some (.inl v4)] [] h else zx zblk xs 30 52 [some (.inr (.inr (some p))), some (.inl v1), some (.inl s0), none, some (.inl v4)] [.inl v5] h) := (zx_unfold zblk xs 30 39 _ rfl _ _ _).trans rfl
theorem e_M_namedNow_51 (xs : List Int) (p : Nat) (v1 : Int) (v2 : Int) (v3 : Int) (v4 : Int) (h : zH) : zx zblk xs 30 51 [some (.inr (.inr (some p))), some (.inl v1), some (.inl v2), some (.inl v3), some (.inl v4)] [] h = zx zblk xs 30 52 [some (.inr (.inr (some p))), some (.inl v1), some (.inl v2), none, some (.inl v4)] [.inl v3] h := (zx_unfold zblk xs 30 51 _ rfl _ _ _).trans rfl
theorem e_M_namedNow_52 (xs : List Int) (p : Nat) (v1 : Int) (v2 : Int) (v4 : Int) (s0 : Int) (h : zH) : zx zblk xs 30 52 [some (.inr (.inr (some p))), some (.inl v1), some (.inl v2), none, some (.inl v4)] [.inl s0] h = zx zblk xs 30 8 [some (.inr (.inr (some p))), some (.inl v1), some (.inl v2), some (.inl s0), some (.inl (v4 + 1))] [] h := (zx_unfold zblk xs 30 52 _ rfl _ _ _).trans rfl
theorem e_M_namedNow_59 (xs : List Int) (v2 : Int) (h : zH) : zx zblk xs 30 59 [none, none, some (.inl v2)] [] h = some (some (.inl v2), h) := (zx_unfold zblk xs 30 59 _ rfl _ _ _).trans rfl
/-- MindReadersModel.means(I)I -/
noncomputable abbrev r_M_means (xs : List Int) (p : Nat) (v1 : Int) (h : zH) : Option zR := zx zblk xs 31 0 [some (.inr (.inr (some p))), some (.inl v1)] [] h
theorem e_M_means_0 (xs : List Int) (p : Nat) (v1 : Int) (h : zH) : zx zblk xs 31 0 [some (.inr (.inr (some p))), some (.inl v1)] [] h = (zck h (some p) 7 (zci (zx zblk xs 9 0 [some (.inr (.inr (some p))), some (.inl v1)] [] h) fun r2 h1 => (if zw r2 ≠ 0 then zx zblk xs 31 11 [some (.inr (.inr (some p))), some (.inl v1)] [] h1 else some (some (.inl (-101)), h1)))) := (zx_unfold zblk xs 31 0 _ rfl _ _ _).trans rfl
theorem e_M_means_11 (xs : List Int) (p : Nat) (v1 : Int) (h : zH) : zx zblk xs 31 11 [some (.inr (.inr (some p))), some (.inl v1)] [] h = (zck h (some p) 7 (zcv (zx zblk xs 22 0 [some (.inr (.inr (some p))), some (.inl v1), some (.inl 0)] [] h) fun h1 => (zck h1 (some p) 7 (zci (zx zblk xs 28 0 [some (.inr (.inr (some p)))] [] h1) fun r3 h2 => (if zw r3 ≠ 0 then zx zblk xs 31 27 [some (.inr (.inr (some p))), some (.inl v1)] [] h2 else some (some (.inl (-103)), h2)))))) := (zx_unfold zblk xs 31 11 _ rfl _ _ _).trans rfl
theorem e_M_means_27 (xs : List Int) (p : Nat) (v1 : Int) (h : zH) : zx zblk xs 31 27 [some (.inr (.inr (some p))), some (.inl v1)] [] h = (zck h (some p) 7 (zci (zx zblk xs 30 0 [some (.inr (.inr (some p))), some (.inl v1)] [] h) fun r2 h1 => (if zw r2 = zw (-1) then zx zblk xs 31 50 [] [] h1 else (zck h1 (some p) 7 (zci (zx zblk xs 29 0 [some (.inr (.inr (some p))), some (.inl r2)] [] h1) fun r4 h3 => (if zw r4 ≠ 0 then zx zblk xs 31 50 [] [] h3 else zx zblk xs 31 51 [] [.inl r2] h3)))))) := (zx_unfold zblk xs 31 27 _ rfl _ _ _).trans rfl
theorem e_M_means_50 (xs : List Int)  (h : zH) : zx zblk xs 31 50 [] [] h = zx zblk xs 31 51 [] [.inl (-1)] h := (zx_unfold zblk xs 31 50 _ rfl _ _ _).trans rfl
theorem e_M_means_51 (xs : List Int) (s0 : Int) (h : zH) : zx zblk xs 31 51 [] [.inl s0] h = some (some (.inl s0), h) := (zx_unfold zblk xs 31 51 _ rfl _ _ _).trans rfl
/-- MindReadersModel.alikeOf(I)I -/
noncomputable abbrev r_M_alikeOf (xs : List Int) (p : Nat) (v1 : Int) (h : zH) : Option zR := zx zblk xs 32 0 [some (.inr (.inr (some p))), some (.inl v1)] [] h
theorem e_M_alikeOf_0 (xs : List Int) (p : Nat) (v1 : Int) (h : zH) : zx zblk xs 32 0 [some (.inr (.inr (some p))), some (.inl v1)] [] h = (zck h (some p) 7 (zcv (zx zblk xs 22 0 [some (.inr (.inr (some p))), some (.inl v1), some (.inl 0)] [] h) fun h1 => zx zblk xs 32 8 [some (.inr (.inr (some p))), some (.inl v1), some (.inl 0)] [] h1)) := (zx_unfold zblk xs 32 0 _ rfl _ _ _).trans rfl
theorem e_M_alikeOf_8 (xs : List Int) (p : Nat) (v1 : Int) (v2 : Int) (h : zH) : zx zblk xs 32 8 [some (.inr (.inr (some p))), some (.inl v1), some (.inl v2)] [] h = (zgr h (some p) 7 6 fun f1 => (zai xs h f1 v1 fun a2 => (if zw a2 ≤ zw v2 then zx zblk xs 32 60 [] [] h else zx zblk xs 32 22 [some (.inr (.inr (some p))), some (.inl v1), some (.inl v2), some (.inl (v2 + 1))] [] h))) := (zx_unfold zblk xs 32 8 _ rfl _ _ _).trans rfl
theorem e_M_alikeOf_22 (xs : List Int) (p : Nat) (v1 : Int) (v2 : Int) (v3 : Int) (h : zH) : zx zblk xs 32 22 [some (.inr (.inr (some p))), some (.inl v1), some (.inl v2), some (.inl v3)] [] h = (zgr h (some p) 7 6 fun f1 => (zai xs h f1 v1 fun a2 => (if zw a2 ≤ zw v3 then zx zblk xs 32 54 [some (.inr (.inr (some p))), some (.inl v1), some (.inl v2)] [] h else (zck h (some p) 7 (zci (zx zblk xs 27 0 [some (.inr (.inr (some p))), some (.inl v2), some (.inl v3)] [] h) fun r4 h3 => (if zw r4 = 0 then zx zblk xs 32 48 [some (.inr (.inr (some p))), some (.inl v1), some (.inl v2), some (.inl v3)] [] h3 else some (some (.inl ((8 * v2) + v3)), h3))))))) := (zx_unfold zblk xs 32 22 _ rfl _ _ _).trans rfl
theorem e_M_alikeOf_48 (xs : List Int) (p : Nat) (v1 : Int) (v2 : Int) (v3 : Int) (h : zH) : zx zblk xs 32 48 [some (.inr (.inr (some p))), some (.inl v1), some (.inl v2), some (.inl v3)] [] h = zx zblk xs 32 22 [some (.inr (.inr (some p))), some (.inl v1), some (.inl v2), some (.inl (v3 + 1))] [] h := (zx_unfold zblk xs 32 48 _ rfl _ _ _).trans rfl
theorem e_M_alikeOf_54 (xs : List Int) (p : Nat) (v1 : Int) (v2 : Int) (h : zH) : zx zblk xs 32 54 [some (.inr (.inr (some p))), some (.inl v1), some (.inl v2)] [] h = zx zblk xs 32 8 [some (.inr (.inr (some p))), some (.inl v1), some (.inl (v2 + 1))] [] h := (zx_unfold zblk xs 32 54 _ rfl _ _ _).trans rfl
theorem e_M_alikeOf_60 (xs : List Int)  (h : zH) : zx zblk xs 32 60 [] [] h = some (some (.inl (-1)), h) := (zx_unfold zblk xs 32 60 _ rfl _ _ _).trans rfl
/-- MindReadersModel.clear(II)I -/
noncomputable abbrev r_M_clear (xs : List Int) (p : Nat) (v1 : Int) (v2 : Int) (h : zH) : Option zR := zx zblk xs 33 0 [some (.inr (.inr (some p))), some (.inl v1), some (.inl v2)] [] h
theorem e_M_clear_0 (xs : List Int) (p : Nat) (v1 : Int) (v2 : Int) (h : zH) : zx zblk xs 33 0 [some (.inr (.inr (some p))), some (.inl v1), some (.inl v2)] [] h = (zck h (some p) 7 (zci (zx zblk xs 9 0 [some (.inr (.inr (some p))), some (.inl v1)] [] h) fun r2 h1 => (if zw r2 ≠ 0 then zx zblk xs 33 11 [some (.inr (.inr (some p))), some (.inl v1), some (.inl v2)] [] h1 else some (some (.inl (-101)), h1)))) := (zx_unfold zblk xs 33 0 _ rfl _ _ _).trans rfl
theorem e_M_clear_11 (xs : List Int) (p : Nat) (v1 : Int) (v2 : Int) (h : zH) : zx zblk xs 33 11 [some (.inr (.inr (some p))), some (.inl v1), some (.inl v2)] [] h = (zci (zx zblk xs 2 0 [some (.inr (.inl (zw v2))), none, some (.inr (.inl 0)), none, some (.inr (.inl 2)), none] [] h) fun r2 h1 => (if zw r2 ≠ 0 then zx zblk xs 33 26 [some (.inr (.inr (some p))), some (.inl v1), some (.inl v2)] [] h1 else some (some (.inl (-102)), h1))) := (zx_unfold zblk xs 33 11 _ rfl _ _ _).trans rfl
theorem e_M_clear_26 (xs : List Int) (p : Nat) (v1 : Int) (v2 : Int) (h : zH) : zx zblk xs 33 26 [some (.inr (.inr (some p))), some (.inl v1), some (.inl v2)] [] h = (zck h (some p) 7 (zci (zx zblk xs 32 0 [some (.inr (.inr (some p))), some (.inl v1)] [] h) fun r2 h1 => (if zw v2 ≠ 0 then zx zblk xs 33 47 [none, none, some (.inl v2), some (.inl r2)] [] h1 else (if zw r2 ≠ zw (-1) then zx zblk xs 33 45 [] [] h1 else zx zblk xs 33 46 [] [.inl 1] h1)))) := (zx_unfold zblk xs 33 26 _ rfl _ _ _).trans rfl
theorem e_M_clear_45 (xs : List Int)  (h : zH) : zx zblk xs 33 45 [] [] h = zx zblk xs 33 46 [] [.inl 0] h := (zx_unfold zblk xs 33 45 _ rfl _ _ _).trans rfl
theorem e_M_clear_46 (xs : List Int) (s0 : Int) (h : zH) : zx zblk xs 33 46 [] [.inl s0] h = some (some (.inl s0), h) := (zx_unfold zblk xs 33 46 _ rfl _ _ _).trans rfl
theorem e_M_clear_47 (xs : List Int) (v2 : Int) (v3 : Int) (h : zH) : zx zblk xs 33 47 [none, none, some (.inl v2), some (.inl v3)] [] h = (if zw v3 ≠ zw (-1) then zx zblk xs 33 56 [none, none, some (.inl v2), some (.inl v3)] [] h else zx zblk xs 33 72 [] [.inl (-1)] h) := (zx_unfold zblk xs 33 47 _ rfl _ _ _).trans rfl
theorem e_M_clear_56 (xs : List Int) (v2 : Int) (v3 : Int) (h : zH) : zx zblk xs 33 56 [none, none, some (.inl v2), some (.inl v3)] [] h = (if zw v2 ≠ zw 1 then zx zblk xs 33 68 [none, none, none, some (.inl v3)] [] h else (if zw 8 = 0 then none else zx zblk xs 33 72 [] [.inl ((zw v3).tdiv (zw 8))] h)) := (zx_unfold zblk xs 33 56 _ rfl _ _ _).trans rfl
theorem e_M_clear_68 (xs : List Int) (v3 : Int) (h : zH) : zx zblk xs 33 68 [none, none, none, some (.inl v3)] [] h = (if zw 8 = 0 then none else zx zblk xs 33 72 [] [.inl ((zw v3).tmod (zw 8))] h) := (zx_unfold zblk xs 33 68 _ rfl _ _ _).trans rfl
theorem e_M_clear_72 (xs : List Int) (s0 : Int) (h : zH) : zx zblk xs 33 72 [] [.inl s0] h = some (some (.inl s0), h) := (zx_unfold zblk xs 33 72 _ rfl _ _ _).trans rfl
/-- MindReadersModel.starts(II)I -/
noncomputable abbrev r_M_starts (xs : List Int) (p : Nat) (v1 : Int) (v2 : Int) (h : zH) : Option zR := zx zblk xs 34 0 [some (.inr (.inr (some p))), some (.inl v1), some (.inl v2)] [] h
theorem e_M_starts_0 (xs : List Int) (p : Nat) (v1 : Int) (v2 : Int) (h : zH) : zx zblk xs 34 0 [some (.inr (.inr (some p))), some (.inl v1), some (.inl v2)] [] h = (zck h (some p) 7 (zci (zx zblk xs 9 0 [some (.inr (.inr (some p))), some (.inl v1)] [] h) fun r2 h1 => (if zw r2 ≠ 0 then zx zblk xs 34 11 [some (.inr (.inr (some p))), some (.inl v1), some (.inl v2)] [] h1 else some (some (.inl (-101)), h1)))) := (zx_unfold zblk xs 34 0 _ rfl _ _ _).trans rfl
theorem e_M_starts_11 (xs : List Int) (p : Nat) (v1 : Int) (v2 : Int) (h : zH) : zx zblk xs 34 11 [some (.inr (.inr (some p))), some (.inl v1), some (.inl v2)] [] h = (zci (zx zblk xs 2 0 [some (.inr (.inl (zw v2))), none, some (.inr (.inl 0)), none, some (.inr (.inl 1)), none] [] h) fun r2 h1 => (if zw r2 ≠ 0 then zx zblk xs 34 24 [some (.inr (.inr (some p))), some (.inl v1), some (.inl v2)] [] h1 else some (some (.inl (-102)), h1))) := (zx_unfold zblk xs 34 11 _ rfl _ _ _).trans rfl
theorem e_M_starts_24 (xs : List Int) (p : Nat) (v1 : Int) (v2 : Int) (h : zH) : zx zblk xs 34 24 [some (.inr (.inr (some p))), some (.inl v1), some (.inl v2)] [] h = (zck h (some p) 7 (zcv (zx zblk xs 22 0 [some (.inr (.inr (some p))), some (.inl v1), some (.inl 0)] [] h) fun h1 => zx zblk xs 34 32 [some (.inr (.inr (some p))), some (.inl v1), some (.inl v2), some (.inl 0)] [] h1)) := (zx_unfold zblk xs 34 24 _ rfl _ _ _).trans rfl
theorem e_M_starts_32 (xs : List Int) (p : Nat) (v1 : Int) (v2 : Int) (v3 : Int) (h : zH) : zx zblk xs 34 32 [some (.inr (.inr (some p))), some (.inl v1), some (.inl v2), some (.inl v3)] [] h = (if zw 64 ≤ zw v3 then zx zblk xs 34 153 [] [] h else (if zw 8 = 0 then none else (if zw 8 = 0 then none else (if zw ((zw v3).tdiv (zw 8)) = zw ((zw v3).tmod (zw 8)) then zx zblk xs 34 83 [some (.inr (.inr (some p))), some (.inl v1), some (.inl v2), some (.inl v3), some (.inl ((zw v3).tdiv (zw 8))), some (.inl ((zw v3).tmod (zw 8)))] [] h else (zgr h (some p) 7 6 fun f1 => (zai xs h f1 v1 fun a2 => (if zw a2 ≤ zw ((zw v3).tdiv (zw 8)) then zx zblk xs 34 83 [some (.inr (.inr (some p))), some (.inl v1), some (.inl v2), some (.inl v3), some (.inl ((zw v3).tdiv (zw 8))), some (.inl ((zw v3).tmod (zw 8)))] [] h else (zgr h (some p) 7 6 fun f3 => (zai xs h f3 v1 fun a4 => (if zw a4 ≤ zw ((zw v3).tmod (zw 8)) then zx zblk xs 34 83 [some (.inr (.inr (some p))), some (.inl v1), some (.inl v2), some (.inl v3), some (.inl ((zw v3).tdiv (zw 8))), some (.inl ((zw v3).tmod (zw 8)))] [] h else zx zblk xs 34 84 [some (.inr (.inr (some p))), some (.inl v1), some (.inl v2), some (.inl v3), some (.inl ((zw v3).tdiv (zw 8))), some (.inl ((zw v3).tmod (zw 8)))] [.inl 1] h)))))))))) := (zx_unfold zblk xs 34 32 _ rfl _ _ _).trans rfl
theorem e_M_starts_83 (xs : List Int) (p : Nat) (v1 : Int) (v2 : Int) (v3 : Int) (v4 : Int) (v5 : Int) (h : zH) : zx zblk xs 34 83 [some (.inr (.inr (some p))), some (.inl v1), some (.inl v2), some (.inl v3), some (.inl v4), some (.inl v5)] [] h = zx zblk xs 34 84 [some (.inr (.inr (some p))), some (.inl v1), some (.inl v2), some (.inl v3), some (.inl v4), some (.inl v5)] [.inl 0] h := (zx_unfold zblk xs 34 83 _ rfl _ _ _).trans rfl
theorem e_M_starts_84 (xs : List Int) (p : Nat) (v1 : Int) (v2 : Int) (v3 : Int) (v4 : Int) (v5 : Int) (s0 : Int) (h : zH) : zx zblk xs 34 84 [some (.inr (.inr (some p))), some (.inl v1), some (.inl v2), some (.inl v3), some (.inl v4), some (.inl v5)] [.inl s0] h = (if zw s0 = 0 then zx zblk xs 34 147 [some (.inr (.inr (some p))), some (.inl v1), some (.inl v2), some (.inl v3)] [] h else (zgr h (some p) 7 14 fun f1 => (zai xs h f1 (11 * v4) fun a2 => (zgr h (some p) 7 14 fun f3 => (zai xs h f3 (11 * v5) fun a4 => (if zw a4 ≤ zw a2 then zx zblk xs 34 147 [some (.inr (.inr (some p))), some (.inl v1), some (.inl v2), some (.inl v3)] [] h else (zgr h (some p) 7 14 fun f5 => (zai xs h f5 (11 * v4) fun a6 => (zck h (some p) 7 (zci (zx zblk xs 26 0 [some (.inr (.inr (some p))), some (.inl v4), some (.inl v5), some (.inl a6)] [] h) fun r8 h7 => (if zw r8 = 0 then zx zblk xs 34 147 [some (.inr (.inr (some p))), some (.inl v1), some (.inl v2), some (.inl v3)] [] h7 else (if zw v2 ≠ 0 then zx zblk xs 34 144 [none, none, none, none, none, some (.inl v5)] [] h7 else zx zblk xs 34 146 [] [.inl v4] h7)))))))))))) := (zx_unfold zblk xs 34 84 _ rfl _ _ _).trans rfl
theorem e_M_starts_144 (xs : List Int) (v5 : Int) (h : zH) : zx zblk xs 34 144 [none, none, none, none, none, some (.inl v5)] [] h = zx zblk xs 34 146 [] [.inl v5] h := (zx_unfold zblk xs 34 144 _ rfl _ _ _).trans rfl
theorem e_M_starts_146 (xs : List Int) (s0 : Int) (h : zH) : zx zblk xs 34 146 [] [.inl s0] h = some (some (.inl s0), h) := (zx_unfold zblk xs 34 146 _ rfl _ _ _).trans rfl
theorem e_M_starts_147 (xs : List Int) (p : Nat) (v1 : Int) (v2 : Int) (v3 : Int) (h : zH) : zx zblk xs 34 147 [some (.inr (.inr (some p))), some (.inl v1), some (.inl v2), some (.inl v3)] [] h = zx zblk xs 34 32 [some (.inr (.inr (some p))), some (.inl v1), some (.inl v2), some (.inl (v3 + 1))] [] h := (zx_unfold zblk xs 34 147 _ rfl _ _ _).trans rfl
theorem e_M_starts_153 (xs : List Int)  (h : zH) : zx zblk xs 34 153 [] [] h = some (some (.inl (-1)), h) := (zx_unfold zblk xs 34 153 _ rfl _ _ _).trans rfl
/-- MindReadersModel.goesOn(III)Z -/
noncomputable abbrev r_M_goesOn (xs : List Int) (p : Nat) (v1 : Int) (v2 : Int) (v3 : Int) (h : zH) : Option zR := zx zblk xs 35 0 [some (.inr (.inr (some p))), some (.inl v1), some (.inl v2), some (.inl v3)] [] h
theorem e_M_goesOn_0 (xs : List Int) (p : Nat) (v1 : Int) (v2 : Int) (v3 : Int) (h : zH) : zx zblk xs 35 0 [some (.inr (.inr (some p))), some (.inl v1), some (.inl v2), some (.inl v3)] [] h = (zgr h (some p) 7 14 fun f1 => (zai xs h f1 (11 * v1) fun a2 => (zgr h (some p) 7 14 fun f3 => (zai xs h f3 (11 * v3) fun a4 => (if zw a4 ≤ zw (a2 - v2) then zx zblk xs 35 32 [some (.inr (.inr (some p))), some (.inl v1), some (.inl v2), some (.inl v3)] [] h else zx zblk xs 35 41 [some (.inr (.inr (some p))), some (.inl v1), some (.inl v2), some (.inl v3)] [.inl (a2 - v2)] h))))) := (zx_unfold zblk xs 35 0 _ rfl _ _ _).trans rfl
theorem e_M_goesOn_32 (xs : List Int) (p : Nat) (v1 : Int) (v2 : Int) (v3 : Int) (h : zH) : zx zblk xs 35 32 [some (.inr (.inr (some p))), some (.inl v1), some (.inl v2), some (.inl v3)] [] h = (zgr h (some p) 7 14 fun f1 => (zai xs h f1 (11 * v3) fun a2 => zx zblk xs 35 41 [some (.inr (.inr (some p))), some (.inl v1), some (.inl v2), some (.inl v3)] [.inl a2] h)) := (zx_unfold zblk xs 35 32 _ rfl _ _ _).trans rfl
theorem e_M_goesOn_41 (xs : List Int) (p : Nat) (v1 : Int) (v2 : Int) (v3 : Int) (s0 : Int) (h : zH) : zx zblk xs 35 41 [some (.inr (.inr (some p))), some (.inl v1), some (.inl v2), some (.inl v3)] [.inl s0] h = zx zblk xs 35 49 [some (.inr (.inr (some p))), some (.inl v1), some (.inl v2), some (.inl v3), none, some (.inl s0), some (.inl 1), some (.inl 0)] [] h := (zx_unfold zblk xs 35 41 _ rfl _ _ _).trans rfl
theorem e_M_goesOn_49 (xs : List Int) (p : Nat) (v1 : Int) (v2 : Int) (v3 : Int) (v5 : Int) (v6 : Int) (v7 : Int) (h : zH) : zx zblk xs 35 49 [some (.inr (.inr (some p))), some (.inl v1), some (.inl v2), some (.inl v3), none, some (.inl v5), some (.inl v6), some (.inl v7)] [] h = (if zw v5 ≤ zw v7 then zx zblk xs 35 107 [none, none, none, none, none, none, some (.inl v6)] [] h else (if zw v6 = 0 then zx zblk xs 35 107 [none, none, none, none, none, none, some (.inl v6)] [] h else (zgr h (some p) 7 14 fun f1 => (zai xs h f1 ((((11 * v1) + 1) + v2) + v7) fun a2 => (zgr h (some p) 7 14 fun f3 => (zai xs h f3 (((11 * v3) + 1) + v7) fun a4 => (if zw a2 ≠ zw a4 then zx zblk xs 35 98 [some (.inr (.inr (some p))), some (.inl v1), some (.inl v2), some (.inl v3), none, some (.inl v5), none, some (.inl v7)] [] h else zx zblk xs 35 99 [some (.inr (.inr (some p))), some (.inl v1), some (.inl v2), some (.inl v3), none, some (.inl v5), none, some (.inl v7)] [.inl 1] h))))))) := (zx_unfold zblk xs 35 49 _ rfl _ _ _).trans rfl
theorem e_M_goesOn_98 (xs : List Int) (p : Nat) (v1 : Int) (v2 : Int) (v3 : Int) (v5 : Int) (v7 : Int) (h : zH) : zx zblk xs 35 98 [some (.inr (.inr (some p))), some (.inl v1), some (.inl v2), some (.inl v3), none, some (.inl v5), none, some (.inl v7)] [] h = zx zblk xs 35 99 [some (.inr (.inr (some p))), some (.inl v1), some (.inl v2), some (.inl v3), none, some (.inl v5), none, some (.inl v7)] [.inl 0] h := (zx_unfold zblk xs 35 98 _ rfl _ _ _).trans rfl
theorem e_M_goesOn_99 (xs : List Int) (p : Nat) (v1 : Int) (v2 : Int) (v3 : Int) (v5 : Int) (v7 : Int) (s0 : Int) (h : zH) : zx zblk xs 35 99 [some (.inr (.inr (some p))), some (.inl v1), some (.inl v2), some (.inl v3), none, some (.inl v5), none, some (.inl v7)] [.inl s0] h = zx zblk xs 35 49 [some (.inr (.inr (some p))), some (.inl v1), some (.inl v2), some (.inl v3), none, some (.inl v5), some (.inl s0), some (.inl (v7 + 1))] [] h := (zx_unfold zblk xs 35 99 _ rfl _ _ _).trans rfl
theorem e_M_goesOn_107 (xs : List Int) (v6 : Int) (h : zH) : zx zblk xs 35 107 [none, none, none, none, none, none, some (.inl v6)] [] h = (if v6 = 0 ∨ v6 = 1 then some (some (.inl v6), h) else none) := (zx_unfold zblk xs 35 107 _ rfl _ _ _).trans rfl
/-- MindReadersModel.reach(III)Z -/
noncomputable abbrev r_M_reach (xs : List Int) (p : Nat) (v1 : Int) (v2 : Int) (v3 : Int) (h : zH) : Option zR := zx zblk xs 36 0 [some (.inr (.inr (some p))), some (.inl v1), some (.inl v2), some (.inl v3)] [] h
theorem e_M_reach_0 (xs : List Int) (p : Nat) (v1 : Int) (v2 : Int) (v3 : Int) (h : zH) : zx zblk xs 36 0 [some (.inr (.inr (some p))), some (.inl v1), some (.inl v2), some (.inl v3)] [] h = (zgr h (some p) 7 14 fun f1 => (zai xs h f1 (11 * v1) fun a2 => (if zw v2 ≠ zw a2 then zx zblk xs 36 35 [some (.inr (.inr (some p))), some (.inl v1), some (.inl v2), some (.inl v3)] [] h else (zgi h (some p) 7 16 fun f3 => (if zw f3 ≤ zw v3 then zx zblk xs 36 26 [some (.inr (.inr (some p)))] [.inr (.inr (some p))] h else zx zblk xs 36 30 [] [.inl v3, .inr (.inr (some p))] h))))) := (zx_unfold zblk xs 36 0 _ rfl _ _ _).trans rfl
theorem e_M_reach_26 (xs : List Int) (p : Nat) (s0 : Option Nat) (h : zH) : zx zblk xs 36 26 [some (.inr (.inr (some p)))] [.inr (.inr s0)] h = (zgi h (some p) 7 16 fun f1 => zx zblk xs 36 30 [] [.inl f1, .inr (.inr s0)] h) := (zx_unfold zblk xs 36 26 _ rfl _ _ _).trans rfl
theorem e_M_reach_30 (xs : List Int) (s0 : Option Nat) (s1 : Int) (h : zH) : zx zblk xs 36 30 [] [.inl s1, .inr (.inr s0)] h = (zpf h s0 7 16 (.inl s1) fun h1 => (if 0 = 0 ∨ 0 = 1 then some (some (.inl 0), h1) else none)) := (zx_unfold zblk xs 36 30 _ rfl _ _ _).trans rfl
theorem e_M_reach_35 (xs : List Int) (p : Nat) (v1 : Int) (v2 : Int) (v3 : Int) (h : zH) : zx zblk xs 36 35 [some (.inr (.inr (some p))), some (.inl v1), some (.inl v2), some (.inl v3)] [] h = (zgr h (some p) 7 15 fun f1 => (zai xs h f1 ((11 * v1) + v2) fun a2 => (if zw a2 ≤ zw v3 then zx zblk xs 36 54 [some (.inr (.inr (some p))), some (.inl v1), some (.inl v2), some (.inl v3)] [] h else zx zblk xs 36 55 [some (.inr (.inr (some p))), some (.inl v1), some (.inl v2), some (.inl v3)] [.inl 1] h))) := (zx_unfold zblk xs 36 35 _ rfl _ _ _).trans rfl
theorem e_M_reach_54 (xs : List Int) (p : Nat) (v1 : Int) (v2 : Int) (v3 : Int) (h : zH) : zx zblk xs 36 54 [some (.inr (.inr (some p))), some (.inl v1), some (.inl v2), some (.inl v3)] [] h = zx zblk xs 36 55 [some (.inr (.inr (some p))), some (.inl v1), some (.inl v2), some (.inl v3)] [.inl 0] h := (zx_unfold zblk xs 36 54 _ rfl _ _ _).trans rfl
theorem e_M_reach_55 (xs : List Int) (p : Nat) (v1 : Int) (v2 : Int) (v3 : Int) (s0 : Int) (h : zH) : zx zblk xs 36 55 [some (.inr (.inr (some p))), some (.inl v1), some (.inl v2), some (.inl v3)] [.inl s0] h = (zgr h (some p) 7 15 fun f1 => (if zw s0 = 0 then zx zblk xs 36 76 [some (.inr (.inr (some p))), some (.inl v1), some (.inl v2), none, some (.inl s0)] [.inl ((11 * v1) + v2), .inr (.inr f1)] h else zx zblk xs 36 87 [none, none, none, none, some (.inl s0)] [.inl v3, .inl ((11 * v1) + v2), .inr (.inr f1)] h)) := (zx_unfold zblk xs 36 55 _ rfl _ _ _).trans rfl
theorem e_M_reach_76 (xs : List Int) (p : Nat) (v1 : Int) (v2 : Int) (v4 : Int) (s0 : Option Nat) (s1 : Int) (h : zH) : zx zblk xs 36 76 [some (.inr (.inr (some p))), some (.inl v1), some (.inl v2), none, some (.inl v4)] [.inl s1, .inr (.inr s0)] h = (zgr h (some p) 7 15 fun f1 => (zai xs h f1 ((11 * v1) + v2) fun a2 => zx zblk xs 36 87 [none, none, none, none, some (.inl v4)] [.inl a2, .inl s1, .inr (.inr s0)] h)) := (zx_unfold zblk xs 36 76 _ rfl _ _ _).trans rfl
theorem e_M_reach_87 (xs : List Int) (v4 : Int) (s0 : Option Nat) (s1 : Int) (s2 : Int) (h : zH) : zx zblk xs 36 87 [none, none, none, none, some (.inl v4)] [.inl s2, .inl s1, .inr (.inr s0)] h = (zst h s0 100 s1 (.inl s2) fun h1 => (if v4 = 0 ∨ v4 = 1 then some (some (.inl v4), h1) else none)) := (zx_unfold zblk xs 36 87 _ rfl _ _ _).trans rfl
/-- MindReadersModel.reachBy(IIII)Z -/
noncomputable abbrev r_M_reachBy (xs : List Int) (p : Nat) (v1 : Int) (v2 : Int) (v3 : Int) (v4 : Int) (h : zH) : Option zR := zx zblk xs 37 0 [some (.inr (.inr (some p))), some (.inl v1), some (.inl v2), some (.inl v3), some (.inl v4)] [] h
theorem e_M_reachBy_0 (xs : List Int) (p : Nat) (v1 : Int) (v2 : Int) (v3 : Int) (v4 : Int) (h : zH) : zx zblk xs 37 0 [some (.inr (.inr (some p))), some (.inl v1), some (.inl v2), some (.inl v3), some (.inl v4)] [] h = (zgr h (some p) 7 14 fun f1 => (zai xs h f1 (11 * v1) fun a2 => (zgr h (some p) 7 14 fun f3 => (zai xs h f3 (11 * v3) fun a4 => (if zw (a2 - v2) < zw a4 then zx zblk xs 37 45 [some (.inr (.inr (some p))), none, none, some (.inl v3), some (.inl v4), some (.inl (a2 - v2)), some (.inl a4)] [] h else (zck h (some p) 7 (zci (zx zblk xs 36 0 [some (.inr (.inr (some p))), some (.inl v1), some (.inl (v2 + a4)), some (.inl v4)] [] h) fun r6 h5 => zx zblk xs 37 60 [] [.inl r6] h5))))))) := (zx_unfold zblk xs 37 0 _ rfl _ _ _).trans rfl
theorem e_M_reachBy_45 (xs : List Int) (p : Nat) (v3 : Int) (v4 : Int) (v5 : Int) (v6 : Int) (h : zH) : zx zblk xs 37 45 [some (.inr (.inr (some p))), none, none, some (.inl v3), some (.inl v4), some (.inl v5), some (.inl v6)] [] h = (zck h (some p) 7 (zci (zx zblk xs 36 0 [some (.inr (.inr (some p))), some (.inl v3), some (.inl v5), some (.inl ((v4 + v6) - v5))] [] h) fun r2 h1 => zx zblk xs 37 60 [] [.inl r2] h1)) := (zx_unfold zblk xs 37 45 _ rfl _ _ _).trans rfl
theorem e_M_reachBy_60 (xs : List Int) (s0 : Int) (h : zH) : zx zblk xs 37 60 [] [.inl s0] h = (if s0 = 0 ∨ s0 = 1 then some (some (.inl s0), h) else none) := (zx_unfold zblk xs 37 60 _ rfl _ _ _).trans rfl
/-- MindReadersModel.twiceOf(I)I -/
noncomputable abbrev r_M_twiceOf (xs : List Int) (p : Nat) (v1 : Int) (h : zH) : Option zR := zx zblk xs 38 0 [some (.inr (.inr (some p))), some (.inl v1)] [] h
theorem e_M_twiceOf_0 (xs : List Int) (p : Nat) (v1 : Int) (h : zH) : zx zblk xs 38 0 [some (.inr (.inr (some p))), some (.inl v1)] [] h = (zck h (some p) 7 (zcv (zx zblk xs 22 0 [some (.inr (.inr (some p))), some (.inl v1), some (.inl 0)] [] h) fun h1 => (zgr h1 (some p) 7 6 fun f2 => (zai xs h1 f2 v1 fun a3 => (zpf h1 (some p) 7 16 (.inl 1000000) fun h4 => zx zblk xs 38 21 [some (.inr (.inr (some p))), none, some (.inl a3), some (.inl 0)] [] h4))))) := (zx_unfold zblk xs 38 0 _ rfl _ _ _).trans rfl
theorem e_M_twiceOf_21 (xs : List Int) (p : Nat) (v2 : Int) (v3 : Int) (h : zH) : zx zblk xs 38 21 [some (.inr (.inr (some p))), none, some (.inl v2), some (.inl v3)] [] h = (if zw 88 ≤ zw v3 then zx zblk xs 38 41 [some (.inr (.inr (some p))), none, some (.inl v2)] [] h else (zgr h (some p) 7 15 fun f1 => (zst h f1 100 v3 (.inl 1000000) fun h2 => zx zblk xs 38 21 [some (.inr (.inr (some p))), none, some (.inl v2), some (.inl (v3 + 1))] [] h2))) := (zx_unfold zblk xs 38 21 _ rfl _ _ _).trans rfl
theorem e_M_twiceOf_41 (xs : List Int) (p : Nat) (v2 : Int) (h : zH) : zx zblk xs 38 41 [some (.inr (.inr (some p))), none, some (.inl v2)] [] h = zx zblk xs 38 43 [some (.inr (.inr (some p))), none, some (.inl v2), some (.inl 0)] [] h := (zx_unfold zblk xs 38 41 _ rfl _ _ _).trans rfl
theorem e_M_twiceOf_43 (xs : List Int) (p : Nat) (v2 : Int) (v3 : Int) (h : zH) : zx zblk xs 38 43 [some (.inr (.inr (some p))), none, some (.inl v2), some (.inl v3)] [] h = (if zw v2 ≤ zw v3 then zx zblk xs 38 167 [some (.inr (.inr (some p))), none, some (.inl v2)] [] h else zx zblk xs 38 51 [some (.inr (.inr (some p))), none, some (.inl v2), some (.inl v3), some (.inl 0)] [] h) := (zx_unfold zblk xs 38 43 _ rfl _ _ _).trans rfl
theorem e_M_twiceOf_51 (xs : List Int) (p : Nat) (v2 : Int) (v3 : Int) (v4 : Int) (h : zH) : zx zblk xs 38 51 [some (.inr (.inr (some p))), none, some (.inl v2), some (.inl v3), some (.inl v4)] [] h = (if zw v2 ≤ zw v4 then zx zblk xs 38 161 [some (.inr (.inr (some p))), none, some (.inl v2), some (.inl v3)] [] h else (if zw v3 = zw v4 then zx zblk xs 38 101 [some (.inr (.inr (some p))), none, some (.inl v2), some (.inl v3), some (.inl v4)] [] h else (zgr h (some p) 7 14 fun f1 => (zai xs h f1 (11 * v3) fun a2 => (if zw a2 ≤ 0 then zx zblk xs 38 101 [some (.inr (.inr (some p))), none, some (.inl v2), some (.inl v3), some (.inl v4)] [] h else (zgr h (some p) 7 14 fun f3 => (zai xs h f3 (11 * v3) fun a4 => (zgr h (some p) 7 14 fun f5 => (zai xs h f5 (11 * v4) fun a6 => (if zw a6 < zw a4 then zx zblk xs 38 101 [some (.inr (.inr (some p))), none, some (.inl v2), some (.inl v3), some (.inl v4)] [] h else zx zblk xs 38 102 [some (.inr (.inr (some p))), none, some (.inl v2), some (.inl v3), some (.inl v4)] [.inl 1] h)))))))))) := (zx_unfold zblk xs 38 51 _ rfl _ _ _).trans rfl
theorem e_M_twiceOf_101 (xs : List Int) (p : Nat) (v2 : Int) (v3 : Int) (v4 : Int) (h : zH) : zx zblk xs 38 101 [some (.inr (.inr (some p))), none, some (.inl v2), some (.inl v3), some (.inl v4)] [] h = zx zblk xs 38 102 [some (.inr (.inr (some p))), none, some (.inl v2), some (.inl v3), some (.inl v4)] [.inl 0] h := (zx_unfold zblk xs 38 101 _ rfl _ _ _).trans rfl
theorem e_M_twiceOf_102 (xs : List Int) (p : Nat) (v2 : Int) (v3 : Int) (v4 : Int) (s0 : Int) (h : zH) : zx zblk xs 38 102 [some (.inr (.inr (some p))), none, some (.inl v2), some (.inl v3), some (.inl v4)] [.inl s0] h = (if zw s0 = 0 then zx zblk xs 38 152 [some (.inr (.inr (some p))), none, some (.inl v2), some (.inl v3), some (.inl v4)] [] h else (zck h (some p) 7 (zci (zx zblk xs 35 0 [some (.inr (.inr (some p))), some (.inl v4), some (.inl 0), some (.inl v3)] [] h) fun r2 h1 => (if zw r2 = 0 then zx zblk xs 38 152 [some (.inr (.inr (some p))), none, some (.inl v2), some (.inl v3), some (.inl v4)] [] h1 else (zgr h1 (some p) 7 14 fun f3 => (zai xs h1 f3 (11 * v3) fun a4 => (zgr h1 (some p) 7 14 fun f5 => (zai xs h1 f5 (11 * v4) fun a6 => (zck h1 (some p) 7 (zci (zx zblk xs 36 0 [some (.inr (.inr (some p))), some (.inl v4), some (.inl a4), some (.inl a6)] [] h1) fun r8 h7 => (if zw r8 = 0 then zx zblk xs 38 152 [some (.inr (.inr (some p))), none, some (.inl v2), some (.inl v3), some (.inl v4)] [] h7 else zx zblk xs 38 153 [some (.inr (.inr (some p))), none, some (.inl v2), some (.inl v3), some (.inl v4)] [.inl 1] h7))))))))))) := (zx_unfold zblk xs 38 102 _ rfl _ _ _).trans rfl
theorem e_M_twiceOf_152 (xs : List Int) (p : Nat) (v2 : Int) (v3 : Int) (v4 : Int) (h : zH) : zx zblk xs 38 152 [some (.inr (.inr (some p))), none, some (.inl v2), some (.inl v3), some (.inl v4)] [] h = zx zblk xs 38 153 [some (.inr (.inr (some p))), none, some (.inl v2), some (.inl v3), some (.inl v4)] [.inl 0] h := (zx_unfold zblk xs 38 152 _ rfl _ _ _).trans rfl
theorem e_M_twiceOf_153 (xs : List Int) (p : Nat) (v2 : Int) (v3 : Int) (v4 : Int) (s0 : Int) (h : zH) : zx zblk xs 38 153 [some (.inr (.inr (some p))), none, some (.inl v2), some (.inl v3), some (.inl v4)] [.inl s0] h = zx zblk xs 38 51 [some (.inr (.inr (some p))), none, some (.inl v2), some (.inl v3), some (.inl (v4 + 1))] [] h := (zx_unfold zblk xs 38 153 _ rfl _ _ _).trans rfl
theorem e_M_twiceOf_161 (xs : List Int) (p : Nat) (v2 : Int) (v3 : Int) (h : zH) : zx zblk xs 38 161 [some (.inr (.inr (some p))), none, some (.inl v2), some (.inl v3)] [] h = zx zblk xs 38 43 [some (.inr (.inr (some p))), none, some (.inl v2), some (.inl (v3 + 1))] [] h := (zx_unfold zblk xs 38 161 _ rfl _ _ _).trans rfl
theorem e_M_twiceOf_167 (xs : List Int) (p : Nat) (v2 : Int) (h : zH) : zx zblk xs 38 167 [some (.inr (.inr (some p))), none, some (.inl v2)] [] h = zx zblk xs 38 169 [some (.inr (.inr (some p))), none, some (.inl v2), some (.inl 1)] [] h := (zx_unfold zblk xs 38 167 _ rfl _ _ _).trans rfl
theorem e_M_twiceOf_169 (xs : List Int) (p : Nat) (v2 : Int) (v3 : Int) (h : zH) : zx zblk xs 38 169 [some (.inr (.inr (some p))), none, some (.inl v2), some (.inl v3)] [] h = (if zw v3 = 0 then zx zblk xs 38 315 [some (.inr (.inr (some p)))] [] h else zx zblk xs 38 178 [some (.inr (.inr (some p))), none, some (.inl v2), some (.inl 0), some (.inl 0)] [] h) := (zx_unfold zblk xs 38 169 _ rfl _ _ _).trans rfl
theorem e_M_twiceOf_178 (xs : List Int) (p : Nat) (v2 : Int) (v3 : Int) (v4 : Int) (h : zH) : zx zblk xs 38 178 [some (.inr (.inr (some p))), none, some (.inl v2), some (.inl v3), some (.inl v4)] [] h = (if zw 88 ≤ zw v4 then zx zblk xs 38 312 [some (.inr (.inr (some p))), none, some (.inl v2), some (.inl v3)] [] h else (if zw 11 = 0 then none else (if zw 11 = 0 then none else zx zblk xs 38 202 [some (.inr (.inr (some p))), none, some (.inl v2), some (.inl v3), some (.inl v4), some (.inl ((zw v4).tdiv (zw 11))), some (.inl ((zw v4).tmod (zw 11))), some (.inl 0)] [] h))) := (zx_unfold zblk xs 38 178 _ rfl _ _ _).trans rfl
theorem e_M_twiceOf_202 (xs : List Int) (p : Nat) (v2 : Int) (v3 : Int) (v4 : Int) (v5 : Int) (v6 : Int) (v7 : Int) (h : zH) : zx zblk xs 38 202 [some (.inr (.inr (some p))), none, some (.inl v2), some (.inl v3), some (.inl v4), some (.inl v5), some (.inl v6), some (.inl v7)] [] h = (if zw v2 ≤ zw v7 then zx zblk xs 38 306 [some (.inr (.inr (some p))), none, some (.inl v2), some (.inl v3), some (.inl v4)] [] h else (zgr h (some p) 7 15 fun f1 => (zai xs h f1 v4 fun a2 => (if zw 1000000 ≤ zw a2 then zx zblk xs 38 306 [some (.inr (.inr (some p))), none, some (.inl v2), some (.inl v3), some (.inl v4)] [] h else (zgr h (some p) 7 14 fun f3 => (zai xs h f3 (11 * v7) fun a4 => (if zw a4 ≤ 0 then zx zblk xs 38 250 [some (.inr (.inr (some p))), none, some (.inl v2), some (.inl v3), some (.inl v4), some (.inl v5), some (.inl v6), some (.inl v7)] [] h else (zck h (some p) 7 (zci (zx zblk xs 35 0 [some (.inr (.inr (some p))), some (.inl v5), some (.inl v6), some (.inl v7)] [] h) fun r6 h5 => (if zw r6 = 0 then zx zblk xs 38 250 [some (.inr (.inr (some p))), none, some (.inl v2), some (.inl v3), some (.inl v4), some (.inl v5), some (.inl v6), some (.inl v7)] [] h5 else zx zblk xs 38 251 [some (.inr (.inr (some p))), none, some (.inl v2), some (.inl v3), some (.inl v4), some (.inl v5), some (.inl v6), some (.inl v7)] [.inl 1] h5)))))))))) := (zx_unfold zblk xs 38 202 _ rfl _ _ _).trans rfl
theorem e_M_twiceOf_250 (xs : List Int) (p : Nat) (v2 : Int) (v3 : Int) (v4 : Int) (v5 : Int) (v6 : Int) (v7 : Int) (h : zH) : zx zblk xs 38 250 [some (.inr (.inr (some p))), none, some (.inl v2), some (.inl v3), some (.inl v4), some (.inl v5), some (.inl v6), some (.inl v7)] [] h = zx zblk xs 38 251 [some (.inr (.inr (some p))), none, some (.inl v2), some (.inl v3), some (.inl v4), some (.inl v5), some (.inl v6), some (.inl v7)] [.inl 0] h := (zx_unfold zblk xs 38 250 _ rfl _ _ _).trans rfl
theorem e_M_twiceOf_251 (xs : List Int) (p : Nat) (v2 : Int) (v3 : Int) (v4 : Int) (v5 : Int) (v6 : Int) (v7 : Int) (s0 : Int) (h : zH) : zx zblk xs 38 251 [some (.inr (.inr (some p))), none, some (.inl v2), some (.inl v3), some (.inl v4), some (.inl v5), some (.inl v6), some (.inl v7)] [.inl s0] h = (if zw s0 = 0 then zx zblk xs 38 282 [some (.inr (.inr (some p))), none, some (.inl v2), some (.inl v3), some (.inl v4), some (.inl v5), some (.inl v6), some (.inl v7)] [] h else (zgr h (some p) 7 15 fun f1 => (zai xs h f1 v4 fun a2 => (zck h (some p) 7 (zci (zx zblk xs 37 0 [some (.inr (.inr (some p))), some (.inl v5), some (.inl v6), some (.inl v7), some (.inl a2)] [] h) fun r4 h3 => (if zw r4 = 0 then zx zblk xs 38 282 [some (.inr (.inr (some p))), none, some (.inl v2), some (.inl v3), some (.inl v4), some (.inl v5), some (.inl v6), some (.inl v7)] [] h3 else zx zblk xs 38 283 [some (.inr (.inr (some p))), none, some (.inl v2), some (.inl v3), some (.inl v4), some (.inl v5), some (.inl v6), some (.inl v7)] [.inl 1] h3)))))) := (zx_unfold zblk xs 38 251 _ rfl _ _ _).trans rfl
theorem e_M_twiceOf_282 (xs : List Int) (p : Nat) (v2 : Int) (v3 : Int) (v4 : Int) (v5 : Int) (v6 : Int) (v7 : Int) (h : zH) : zx zblk xs 38 282 [some (.inr (.inr (some p))), none, some (.inl v2), some (.inl v3), some (.inl v4), some (.inl v5), some (.inl v6), some (.inl v7)] [] h = zx zblk xs 38 283 [some (.inr (.inr (some p))), none, some (.inl v2), some (.inl v3), some (.inl v4), some (.inl v5), some (.inl v6), some (.inl v7)] [.inl 0] h := (zx_unfold zblk xs 38 282 _ rfl _ _ _).trans rfl
theorem e_M_twiceOf_283 (xs : List Int) (p : Nat) (v2 : Int) (v3 : Int) (v4 : Int) (v5 : Int) (v6 : Int) (v7 : Int) (s0 : Int) (h : zH) : zx zblk xs 38 283 [some (.inr (.inr (some p))), none, some (.inl v2), some (.inl v3), some (.inl v4), some (.inl v5), some (.inl v6), some (.inl v7)] [.inl s0] h = (if zw v3 ≠ 0 then zx zblk xs 38 294 [some (.inr (.inr (some p))), none, some (.inl v2), none, some (.inl v4), some (.inl v5), some (.inl v6), some (.inl v7)] [] h else (if zw s0 = 0 then zx zblk xs 38 298 [some (.inr (.inr (some p))), none, some (.inl v2), none, some (.inl v4), some (.inl v5), some (.inl v6), some (.inl v7)] [] h else zx zblk xs 38 294 [some (.inr (.inr (some p))), none, some (.inl v2), none, some (.inl v4), some (.inl v5), some (.inl v6), some (.inl v7)] [] h)) := (zx_unfold zblk xs 38 283 _ rfl _ _ _).trans rfl
theorem e_M_twiceOf_294 (xs : List Int) (p : Nat) (v2 : Int) (v4 : Int) (v5 : Int) (v6 : Int) (v7 : Int) (h : zH) : zx zblk xs 38 294 [some (.inr (.inr (some p))), none, some (.inl v2), none, some (.inl v4), some (.inl v5), some (.inl v6), some (.inl v7)] [] h = zx zblk xs 38 299 [some (.inr (.inr (some p))), none, some (.inl v2), none, some (.inl v4), some (.inl v5), some (.inl v6), some (.inl v7)] [.inl 1] h := (zx_unfold zblk xs 38 294 _ rfl _ _ _).trans rfl
theorem e_M_twiceOf_298 (xs : List Int) (p : Nat) (v2 : Int) (v4 : Int) (v5 : Int) (v6 : Int) (v7 : Int) (h : zH) : zx zblk xs 38 298 [some (.inr (.inr (some p))), none, some (.inl v2), none, some (.inl v4), some (.inl v5), some (.inl v6), some (.inl v7)] [] h = zx zblk xs 38 299 [some (.inr (.inr (some p))), none, some (.inl v2), none, some (.inl v4), some (.inl v5), some (.inl v6), some (.inl v7)] [.inl 0] h := (zx_unfold zblk xs 38 298 _ rfl _ _ _).trans rfl
theorem e_M_twiceOf_299 (xs : List Int) (p : Nat) (v2 : Int) (v4 : Int) (v5 : Int) (v6 : Int) (v7 : Int) (s0 : Int) (h : zH) : zx zblk xs 38 299 [some (.inr (.inr (some p))), none, some (.inl v2), none, some (.inl v4), some (.inl v5), some (.inl v6), some (.inl v7)] [.inl s0] h = zx zblk xs 38 202 [some (.inr (.inr (some p))), none, some (.inl v2), some (.inl s0), some (.inl v4), some (.inl v5), some (.inl v6), some (.inl (v7 + 1))] [] h := (zx_unfold zblk xs 38 299 _ rfl _ _ _).trans rfl
theorem e_M_twiceOf_306 (xs : List Int) (p : Nat) (v2 : Int) (v3 : Int) (v4 : Int) (h : zH) : zx zblk xs 38 306 [some (.inr (.inr (some p))), none, some (.inl v2), some (.inl v3), some (.inl v4)] [] h = zx zblk xs 38 178 [some (.inr (.inr (some p))), none, some (.inl v2), some (.inl v3), some (.inl (v4 + 1))] [] h := (zx_unfold zblk xs 38 306 _ rfl _ _ _).trans rfl
theorem e_M_twiceOf_312 (xs : List Int) (p : Nat) (v2 : Int) (v3 : Int) (h : zH) : zx zblk xs 38 312 [some (.inr (.inr (some p))), none, some (.inl v2), some (.inl v3)] [] h = zx zblk xs 38 169 [some (.inr (.inr (some p))), none, some (.inl v2), some (.inl v3)] [] h := (zx_unfold zblk xs 38 312 _ rfl _ _ _).trans rfl
theorem e_M_twiceOf_315 (xs : List Int) (p : Nat) (h : zH) : zx zblk xs 38 315 [some (.inr (.inr (some p)))] [] h = (zgi h (some p) 7 16 fun f1 => (if zw f1 ≠ zw 1000000 then zx zblk xs 38 328 [some (.inr (.inr (some p)))] [] h else zx zblk xs 38 332 [] [.inl (-1)] h)) := (zx_unfold zblk xs 38 315 _ rfl _ _ _).trans rfl
theorem e_M_twiceOf_328 (xs : List Int) (p : Nat) (h : zH) : zx zblk xs 38 328 [some (.inr (.inr (some p)))] [] h = (zgi h (some p) 7 16 fun f1 => zx zblk xs 38 332 [] [.inl f1] h) := (zx_unfold zblk xs 38 328 _ rfl _ _ _).trans rfl
theorem e_M_twiceOf_332 (xs : List Int) (s0 : Int) (h : zH) : zx zblk xs 38 332 [] [.inl s0] h = some (some (.inl s0), h) := (zx_unfold zblk xs 38 332 _ rfl _ _ _).trans rfl
/-- MindReadersModel.twice(I)I -/
noncomputable abbrev r_M_twice (xs : List Int) (p : Nat) (v1 : Int) (h : zH) : Option zR := zx zblk xs 39 0 [some (.inr (.inr (some p))), some (.inl v1)] [] h
theorem e_M_twice_0 (xs : List Int) (p : Nat) (v1 : Int) (h : zH) : zx zblk xs 39 0 [some (.inr (.inr (some p))), some (.inl v1)] [] h = (zck h (some p) 7 (zci (zx zblk xs 9 0 [some (.inr (.inr (some p))), some (.inl v1)] [] h) fun r2 h1 => (if zw r2 = 0 then zx zblk xs 39 16 [] [] h1 else (zck h1 (some p) 7 (zci (zx zblk xs 38 0 [some (.inr (.inr (some p))), some (.inl v1)] [] h1) fun r4 h3 => zx zblk xs 39 18 [] [.inl r4] h3))))) := (zx_unfold zblk xs 39 0 _ rfl _ _ _).trans rfl
theorem e_M_twice_16 (xs : List Int)  (h : zH) : zx zblk xs 39 16 [] [] h = zx zblk xs 39 18 [] [.inl (-101)] h := (zx_unfold zblk xs 39 16 _ rfl _ _ _).trans rfl
theorem e_M_twice_18 (xs : List Int) (s0 : Int) (h : zH) : zx zblk xs 39 18 [] [.inl s0] h = some (some (.inl s0), h) := (zx_unfold zblk xs 39 18 _ rfl _ _ _).trans rfl
/-- MindReadersModel.saidBy(I)I -/
noncomputable abbrev r_M_saidBy (xs : List Int) (p : Nat) (v1 : Int) (h : zH) : Option zR := zx zblk xs 40 0 [some (.inr (.inr (some p))), some (.inl v1)] [] h
theorem e_M_saidBy_0 (xs : List Int) (p : Nat) (v1 : Int) (h : zH) : zx zblk xs 40 0 [some (.inr (.inr (some p))), some (.inl v1)] [] h = (zgr h (some p) 7 6 fun f1 => (zai xs h f1 v1 fun a2 => (zgi h (some p) 7 10 fun f3 => (if zw f3 ≤ zw a2 then zx zblk xs 40 22 [some (.inr (.inr (some p)))] [] h else (zgr h (some p) 7 6 fun f4 => (zai xs h f4 v1 fun a5 => zx zblk xs 40 26 [] [.inl a5] h)))))) := (zx_unfold zblk xs 40 0 _ rfl _ _ _).trans rfl
theorem e_M_saidBy_22 (xs : List Int) (p : Nat) (h : zH) : zx zblk xs 40 22 [some (.inr (.inr (some p)))] [] h = (zgi h (some p) 7 10 fun f1 => zx zblk xs 40 26 [] [.inl f1] h) := (zx_unfold zblk xs 40 22 _ rfl _ _ _).trans rfl
theorem e_M_saidBy_26 (xs : List Int) (s0 : Int) (h : zH) : zx zblk xs 40 26 [] [.inl s0] h = some (some (.inl s0), h) := (zx_unfold zblk xs 40 26 _ rfl _ _ _).trans rfl
/-- MindReadersModel.common(JJ)J -/
noncomputable abbrev r_M_common (xs : List Int) (v1 : Int) (v2 : Int) (h : zH) : Option zR := zx zblk xs 41 0 [some (.inr (.inl v1)), none, some (.inr (.inl v2)), none] [] h
theorem e_M_common_0 (xs : List Int) (v0 : Int) (v2 : Int) (h : zH) : zx zblk xs 41 0 [some (.inr (.inl v0)), none, some (.inr (.inl v2)), none] [] h = zx zblk xs 41 6 [none, none, none, none, some (.inr (.inl v0)), none, some (.inr (.inl v2))] [] h := (zx_unfold zblk xs 41 0 _ rfl _ _ _).trans rfl
theorem e_M_common_6 (xs : List Int) (v4 : Int) (v6 : Int) (h : zH) : zx zblk xs 41 6 [none, none, none, none, some (.inr (.inl v4)), none, some (.inr (.inl v6))] [] h = (if zw (if zwl v4 < zwl 0 then -1 else if zwl v4 = zwl 0 then 0 else 1) = 0 then zx zblk xs 41 31 [none, none, none, none, none, none, some (.inr (.inl v6))] [] h else (if zwl v4 = 0 then none else zx zblk xs 41 6 [none, none, none, none, some (.inr (.inl ((zwl v6).tmod (zwl v4)))), none, some (.inr (.inl v4))] [] h)) := (zx_unfold zblk xs 41 6 _ rfl _ _ _).trans rfl
theorem e_M_common_31 (xs : List Int) (v6 : Int) (h : zH) : zx zblk xs 41 31 [none, none, none, none, none, none, some (.inr (.inl v6))] [] h = some (some (.inr (.inl v6)), h) := (zx_unfold zblk xs 41 31 _ rfl _ _ _).trans rfl
/-- MindReadersModel.term(JJI)J -/
noncomputable abbrev r_M_term (xs : List Int) (v1 : Int) (v2 : Int) (v3 : Int) (h : zH) : Option zR := zx zblk xs 42 0 [some (.inr (.inl v1)), none, some (.inr (.inl v2)), none, some (.inl v3)] [] h
theorem e_M_term_0 (xs : List Int) (v0 : Int) (v2 : Int) (v4 : Int) (h : zH) : zx zblk xs 42 0 [some (.inr (.inl v0)), none, some (.inr (.inl v2)), none, some (.inl v4)] [] h = (zcl (zx zblk xs 41 0 [some (.inr (.inl v0)), none, some (.inr (.inl v2)), none] [] h) fun r2 h1 => (if zw v4 ≠ 0 then zx zblk xs 42 19 [none, none, some (.inr (.inl v2)), none, none, some (.inr (.inl r2))] [] h1 else (if zwl r2 = 0 then none else zx zblk xs 42 23 [] [.inr (.inl ((zwl v0).tdiv (zwl r2)))] h1))) := (zx_unfold zblk xs 42 0 _ rfl _ _ _).trans rfl
theorem e_M_term_19 (xs : List Int) (v2 : Int) (v5 : Int) (h : zH) : zx zblk xs 42 19 [none, none, some (.inr (.inl v2)), none, none, some (.inr (.inl v5))] [] h = (if zwl v5 = 0 then none else zx zblk xs 42 23 [] [.inr (.inl ((zwl v2).tdiv (zwl v5)))] h) := (zx_unfold zblk xs 42 19 _ rfl _ _ _).trans rfl
theorem e_M_term_23 (xs : List Int) (s0 : Int) (h : zH) : zx zblk xs 42 23 [] [.inr (.inl s0)] h = some (some (.inr (.inl s0)), h) := (zx_unfold zblk xs 42 23 _ rfl _ _ _).trans rfl
/-- MindReadersModel.isPart(I)Z -/
noncomputable abbrev r_M_isPart (xs : List Int) (v1 : Int) (h : zH) : Option zR := zx zblk xs 43 0 [some (.inl v1)] [] h
theorem e_M_isPart_0 (xs : List Int) (v0 : Int) (h : zH) : zx zblk xs 43 0 [some (.inl v0)] [] h = (zci (zx zblk xs 2 0 [some (.inr (.inl (zw v0))), none, some (.inr (.inl 0)), none, some (.inr (.inl 1)), none] [] h) fun r2 h1 => (if r2 = 0 ∨ r2 = 1 then some (some (.inl r2), h1) else none)) := (zx_unfold zblk xs 43 0 _ rfl _ _ _).trans rfl
/-- MindReadersModel.weighed(I)I -/
noncomputable abbrev r_M_weighed (xs : List Int) (p : Nat) (v1 : Int) (h : zH) : Option zR := zx zblk xs 44 0 [some (.inr (.inr (some p))), some (.inl v1)] [] h
theorem e_M_weighed_0 (xs : List Int) (p : Nat) (v1 : Int) (h : zH) : zx zblk xs 44 0 [some (.inr (.inr (some p))), some (.inl v1)] [] h = zx zblk xs 44 4 [some (.inr (.inr (some p))), some (.inl v1), some (.inl 0), some (.inl 0)] [] h := (zx_unfold zblk xs 44 0 _ rfl _ _ _).trans rfl
theorem e_M_weighed_4 (xs : List Int) (p : Nat) (v1 : Int) (v2 : Int) (v3 : Int) (h : zH) : zx zblk xs 44 4 [some (.inr (.inr (some p))), some (.inl v1), some (.inl v2), some (.inl v3)] [] h = (if zw v1 ≤ zw v3 then zx zblk xs 44 24 [none, none, some (.inl v2)] [] h else (zgr h (some p) 7 11 fun f1 => (zai xs h f1 v3 fun a2 => zx zblk xs 44 4 [some (.inr (.inr (some p))), some (.inl v1), some (.inl (v2 + a2)), some (.inl (v3 + 1))] [] h))) := (zx_unfold zblk xs 44 4 _ rfl _ _ _).trans rfl
theorem e_M_weighed_24 (xs : List Int) (v2 : Int) (h : zH) : zx zblk xs 44 24 [none, none, some (.inl v2)] [] h = some (some (.inl v2), h) := (zx_unfold zblk xs 44 24 _ rfl _ _ _).trans rfl
/-- MindReadersModel.mean(II)I -/
noncomputable abbrev r_M_mean (xs : List Int) (p : Nat) (v1 : Int) (v2 : Int) (h : zH) : Option zR := zx zblk xs 45 0 [some (.inr (.inr (some p))), some (.inl v1), some (.inl v2)] [] h
theorem e_M_mean_0 (xs : List Int) (p : Nat) (v1 : Int) (v2 : Int) (h : zH) : zx zblk xs 45 0 [some (.inr (.inr (some p))), some (.inl v1), some (.inl v2)] [] h = (zck h (some p) 7 (zci (zx zblk xs 9 0 [some (.inr (.inr (some p))), some (.inl v1)] [] h) fun r2 h1 => (if zw r2 ≠ 0 then zx zblk xs 45 11 [some (.inr (.inr (some p))), some (.inl v1), some (.inl v2)] [] h1 else some (some (.inl (-101)), h1)))) := (zx_unfold zblk xs 45 0 _ rfl _ _ _).trans rfl
theorem e_M_mean_11 (xs : List Int) (p : Nat) (v1 : Int) (v2 : Int) (h : zH) : zx zblk xs 45 11 [some (.inr (.inr (some p))), some (.inl v1), some (.inl v2)] [] h = (zci (zx zblk xs 43 0 [some (.inl v2)] [] h) fun r2 h1 => (if zw r2 ≠ 0 then zx zblk xs 45 21 [some (.inr (.inr (some p))), some (.inl v1), some (.inl v2)] [] h1 else some (some (.inl (-102)), h1))) := (zx_unfold zblk xs 45 11 _ rfl _ _ _).trans rfl
theorem e_M_mean_21 (xs : List Int) (p : Nat) (v1 : Int) (v2 : Int) (h : zH) : zx zblk xs 45 21 [some (.inr (.inr (some p))), some (.inl v1), some (.inl v2)] [] h = (zck h (some p) 7 (zci (zx zblk xs 40 0 [some (.inr (.inr (some p))), some (.inl v1)] [] h) fun r2 h1 => (if zw r2 ≠ 0 then zx zblk xs 45 34 [some (.inr (.inr (some p))), some (.inl v1), some (.inl v2), some (.inl r2)] [] h1 else some (some (.inl (-103)), h1)))) := (zx_unfold zblk xs 45 21 _ rfl _ _ _).trans rfl
theorem e_M_mean_34 (xs : List Int) (p : Nat) (v1 : Int) (v2 : Int) (v3 : Int) (h : zH) : zx zblk xs 45 34 [some (.inr (.inr (some p))), some (.inl v1), some (.inl v2), some (.inl v3)] [] h = zx zblk xs 45 40 [some (.inr (.inr (some p))), some (.inl v1), some (.inl v2), some (.inl v3), some (.inl 0), some (.inl 0)] [] h := (zx_unfold zblk xs 45 34 _ rfl _ _ _).trans rfl
theorem e_M_mean_40 (xs : List Int) (p : Nat) (v1 : Int) (v2 : Int) (v3 : Int) (v4 : Int) (v5 : Int) (h : zH) : zx zblk xs 45 40 [some (.inr (.inr (some p))), some (.inl v1), some (.inl v2), some (.inl v3), some (.inl v4), some (.inl v5)] [] h = (if zw v3 ≤ zw v5 then zx zblk xs 45 72 [some (.inr (.inr (some p))), none, some (.inl v2), some (.inl v3), some (.inl v4)] [] h else (zgr h (some p) 7 11 fun f1 => (zai xs h f1 v5 fun a2 => (zck h (some p) 7 (zci (zx zblk xs 23 0 [some (.inr (.inr (some p))), some (.inl v1), some (.inl v5)] [] h) fun r4 h3 => zx zblk xs 45 40 [some (.inr (.inr (some p))), some (.inl v1), some (.inl v2), some (.inl v3), some (.inl (v4 + (a2 * r4))), some (.inl (v5 + 1))] [] h3))))) := (zx_unfold zblk xs 45 40 _ rfl _ _ _).trans rfl
theorem e_M_mean_72 (xs : List Int) (p : Nat) (v2 : Int) (v3 : Int) (v4 : Int) (h : zH) : zx zblk xs 45 72 [some (.inr (.inr (some p))), none, some (.inl v2), some (.inl v3), some (.inl v4)] [] h = (zck h (some p) 7 (zci (zx zblk xs 44 0 [some (.inr (.inr (some p))), some (.inl v3)] [] h) fun r2 h1 => (zcl (zx zblk xs 42 0 [some (.inr (.inl (zw v4))), none, some (.inr (.inl (zw r2))), none, some (.inl v2)] [] h1) fun r4 h3 => some (some (.inl r4), h3)))) := (zx_unfold zblk xs 45 72 _ rfl _ _ _).trans rfl
/-- MindReadersModel.oddnessOf(I)I -/
noncomputable abbrev r_M_oddnessOf (xs : List Int) (p : Nat) (v1 : Int) (h : zH) : Option zR := zx zblk xs 46 0 [some (.inr (.inr (some p))), some (.inl v1)] [] h
theorem e_M_oddnessOf_0 (xs : List Int) (p : Nat) (v1 : Int) (h : zH) : zx zblk xs 46 0 [some (.inr (.inr (some p))), some (.inl v1)] [] h = zx zblk xs 46 4 [some (.inr (.inr (some p))), some (.inl v1), some (.inl 0), some (.inl 0)] [] h := (zx_unfold zblk xs 46 0 _ rfl _ _ _).trans rfl
theorem e_M_oddnessOf_4 (xs : List Int) (p : Nat) (v1 : Int) (v2 : Int) (v3 : Int) (h : zH) : zx zblk xs 46 4 [some (.inr (.inr (some p))), some (.inl v1), some (.inl v2), some (.inl v3)] [] h = (zck h (some p) 7 (zci (zx zblk xs 40 0 [some (.inr (.inr (some p))), some (.inl v1)] [] h) fun r2 h1 => (if zw r2 ≤ zw v3 then zx zblk xs 46 75 [none, none, some (.inl v2)] [] h1 else zx zblk xs 46 27 [some (.inr (.inr (some p))), some (.inl v1), some (.inl v2), some (.inl v3), some (.inl ((48 * v1) + (6 * v3))), some (.inl 1)] [] h1))) := (zx_unfold zblk xs 46 4 _ rfl _ _ _).trans rfl
theorem e_M_oddnessOf_27 (xs : List Int) (p : Nat) (v1 : Int) (v2 : Int) (v3 : Int) (v4 : Int) (v5 : Int) (h : zH) : zx zblk xs 46 27 [some (.inr (.inr (some p))), some (.inl v1), some (.inl v2), some (.inl v3), some (.inl v4), some (.inl v5)] [] h = (zgr h (some p) 7 7 fun f1 => (zai xs h f1 v4 fun a2 => (if zw a2 < zw v5 then zx zblk xs 46 69 [some (.inr (.inr (some p))), some (.inl v1), some (.inl v2), some (.inl v3)] [] h else (zgr h (some p) 7 11 fun f3 => (zai xs h f3 v3 fun a4 => (zgr h (some p) 7 7 fun f5 => (zai xs h f5 (v4 + v5) fun a6 => (zck h (some p) 7 (zci (zx zblk xs 19 0 [some (.inr (.inr (some p))), some (.inl a6)] [] h) fun r8 h7 => zx zblk xs 46 27 [some (.inr (.inr (some p))), some (.inl v1), some (.inl (v2 + (a4 * r8))), some (.inl v3), some (.inl v4), some (.inl (v5 + 1))] [] h7))))))))) := (zx_unfold zblk xs 46 27 _ rfl _ _ _).trans rfl
theorem e_M_oddnessOf_69 (xs : List Int) (p : Nat) (v1 : Int) (v2 : Int) (v3 : Int) (h : zH) : zx zblk xs 46 69 [some (.inr (.inr (some p))), some (.inl v1), some (.inl v2), some (.inl v3)] [] h = zx zblk xs 46 4 [some (.inr (.inr (some p))), some (.inl v1), some (.inl v2), some (.inl (v3 + 1))] [] h := (zx_unfold zblk xs 46 69 _ rfl _ _ _).trans rfl
theorem e_M_oddnessOf_75 (xs : List Int) (v2 : Int) (h : zH) : zx zblk xs 46 75 [none, none, some (.inl v2)] [] h = some (some (.inl v2), h) := (zx_unfold zblk xs 46 75 _ rfl _ _ _).trans rfl
/-- MindReadersModel.oddness(I)I -/
noncomputable abbrev r_M_oddness (xs : List Int) (p : Nat) (v1 : Int) (h : zH) : Option zR := zx zblk xs 47 0 [some (.inr (.inr (some p))), some (.inl v1)] [] h
theorem e_M_oddness_0 (xs : List Int) (p : Nat) (v1 : Int) (h : zH) : zx zblk xs 47 0 [some (.inr (.inr (some p))), some (.inl v1)] [] h = (zck h (some p) 7 (zci (zx zblk xs 9 0 [some (.inr (.inr (some p))), some (.inl v1)] [] h) fun r2 h1 => (if zw r2 = 0 then zx zblk xs 47 16 [] [] h1 else (zck h1 (some p) 7 (zci (zx zblk xs 46 0 [some (.inr (.inr (some p))), some (.inl v1)] [] h1) fun r4 h3 => zx zblk xs 47 18 [] [.inl r4] h3))))) := (zx_unfold zblk xs 47 0 _ rfl _ _ _).trans rfl
theorem e_M_oddness_16 (xs : List Int)  (h : zH) : zx zblk xs 47 16 [] [] h = zx zblk xs 47 18 [] [.inl (-101)] h := (zx_unfold zblk xs 47 16 _ rfl _ _ _).trans rfl
theorem e_M_oddness_18 (xs : List Int) (s0 : Int) (h : zH) : zx zblk xs 47 18 [] [.inl s0] h = some (some (.inl s0), h) := (zx_unfold zblk xs 47 18 _ rfl _ _ _).trans rfl
/-- MindReadersModel.placeOf(II)I -/
noncomputable abbrev r_M_placeOf (xs : List Int) (p : Nat) (v1 : Int) (v2 : Int) (h : zH) : Option zR := zx zblk xs 48 0 [some (.inr (.inr (some p))), some (.inl v1), some (.inl v2)] [] h
theorem e_M_placeOf_0 (xs : List Int) (p : Nat) (v1 : Int) (v2 : Int) (h : zH) : zx zblk xs 48 0 [some (.inr (.inr (some p))), some (.inl v1), some (.inl v2)] [] h = zx zblk xs 48 5 [some (.inr (.inr (some p))), some (.inl v1), some (.inl v2), some (.inl 0), some (.inl 0)] [] h := (zx_unfold zblk xs 48 0 _ rfl _ _ _).trans rfl
theorem e_M_placeOf_5 (xs : List Int) (p : Nat) (v1 : Int) (v2 : Int) (v3 : Int) (v4 : Int) (h : zH) : zx zblk xs 48 5 [some (.inr (.inr (some p))), some (.inl v1), some (.inl v2), some (.inl v3), some (.inl v4)] [] h = (if zw v2 ≤ zw v4 then zx zblk xs 48 63 [none, none, none, some (.inl v3)] [] h else (zgr h (some p) 7 11 fun f1 => (zai xs h f1 v4 fun a2 => (zgr h (some p) 7 11 fun f3 => (zai xs h f3 v1 fun a4 => (if zw a4 < zw a2 then zx zblk xs 48 50 [some (.inr (.inr (some p))), some (.inl v1), some (.inl v2), none, some (.inl v4)] [.inl v3] h else (zgr h (some p) 7 11 fun f5 => (zai xs h f5 v4 fun a6 => (zgr h (some p) 7 11 fun f7 => (zai xs h f7 v1 fun a8 => (if zw a6 ≠ zw a8 then zx zblk xs 48 54 [some (.inr (.inr (some p))), some (.inl v1), some (.inl v2), none, some (.inl v4)] [.inl v3] h else (if zw v1 ≤ zw v4 then zx zblk xs 48 54 [some (.inr (.inr (some p))), some (.inl v1), some (.inl v2), none, some (.inl v4)] [.inl v3] h else zx zblk xs 48 50 [some (.inr (.inr (some p))), some (.inl v1), some (.inl v2), none, some (.inl v4)] [.inl v3] h)))))))))))) := (zx_unfold zblk xs 48 5 _ rfl _ _ _).trans rfl
theorem e_M_placeOf_50 (xs : List Int) (p : Nat) (v1 : Int) (v2 : Int) (v4 : Int) (s0 : Int) (h : zH) : zx zblk xs 48 50 [some (.inr (.inr (some p))), some (.inl v1), some (.inl v2), none, some (.inl v4)] [.inl s0] h = zx zblk xs 48 55 [some (.inr (.inr (some p))), some (.inl v1), some (.inl v2), none, some (.inl v4)] [.inl 1, .inl s0] h := (zx_unfold zblk xs 48 50 _ rfl _ _ _).trans rfl
theorem e_M_placeOf_54 (xs : List Int) (p : Nat) (v1 : Int) (v2 : Int) (v4 : Int) (s0 : Int) (h : zH) : zx zblk xs 48 54 [some (.inr (.inr (some p))), some (.inl v1), some (.inl v2), none, some (.inl v4)] [.inl s0] h = zx zblk xs 48 55 [some (.inr (.inr (some p))), some (.inl v1), some (.inl v2), none, some (.inl v4)] [.inl 0, .inl s0] h := (zx_unfold zblk xs 48 54 _ rfl _ _ _).trans rfl
theorem e_M_placeOf_55 (xs : List Int) (p : Nat) (v1 : Int) (v2 : Int) (v4 : Int) (s0 : Int) (s1 : Int) (h : zH) : zx zblk xs 48 55 [some (.inr (.inr (some p))), some (.inl v1), some (.inl v2), none, some (.inl v4)] [.inl s1, .inl s0] h = zx zblk xs 48 5 [some (.inr (.inr (some p))), some (.inl v1), some (.inl v2), some (.inl (s0 + s1)), some (.inl (v4 + 1))] [] h := (zx_unfold zblk xs 48 55 _ rfl _ _ _).trans rfl
theorem e_M_placeOf_63 (xs : List Int) (v3 : Int) (h : zH) : zx zblk xs 48 63 [none, none, none, some (.inl v3)] [] h = some (some (.inl v3), h) := (zx_unfold zblk xs 48 63 _ rfl _ _ _).trans rfl
/-- MindReadersModel.speechAt(III)I -/
noncomputable abbrev r_M_speechAt (xs : List Int) (p : Nat) (v1 : Int) (v2 : Int) (v3 : Int) (h : zH) : Option zR := zx zblk xs 49 0 [some (.inr (.inr (some p))), some (.inl v1), some (.inl v2), some (.inl v3)] [] h
theorem e_M_speechAt_0 (xs : List Int) (p : Nat) (v1 : Int) (v2 : Int) (v3 : Int) (h : zH) : zx zblk xs 49 0 [some (.inr (.inr (some p))), some (.inl v1), some (.inl v2), some (.inl v3)] [] h = zx zblk xs 49 6 [some (.inr (.inr (some p))), some (.inl v1), some (.inl v2), some (.inl v3), some (.inl (-1)), some (.inl 0)] [] h := (zx_unfold zblk xs 49 0 _ rfl _ _ _).trans rfl
theorem e_M_speechAt_6 (xs : List Int) (p : Nat) (v1 : Int) (v2 : Int) (v3 : Int) (v4 : Int) (v5 : Int) (h : zH) : zx zblk xs 49 6 [some (.inr (.inr (some p))), some (.inl v1), some (.inl v2), some (.inl v3), some (.inl v4), some (.inl v5)] [] h = (if zw v3 ≤ zw v5 then zx zblk xs 49 95 [none, none, none, none, some (.inl v4)] [] h else zx zblk xs 49 18 [some (.inr (.inr (some p))), some (.inl v1), some (.inl v2), some (.inl v3), some (.inl v4), some (.inl v5), some (.inl 0), some (.inl 0)] [] h) := (zx_unfold zblk xs 49 6 _ rfl _ _ _).trans rfl
theorem e_M_speechAt_18 (xs : List Int) (p : Nat) (v1 : Int) (v2 : Int) (v3 : Int) (v4 : Int) (v5 : Int) (v6 : Int) (v7 : Int) (h : zH) : zx zblk xs 49 18 [some (.inr (.inr (some p))), some (.inl v1), some (.inl v2), some (.inl v3), some (.inl v4), some (.inl v5), some (.inl v6), some (.inl v7)] [] h = (if zw v3 ≤ zw v7 then zx zblk xs 49 74 [some (.inr (.inr (some p))), some (.inl v1), some (.inl v2), some (.inl v3), some (.inl v4), some (.inl v5), some (.inl v6)] [] h else (zck h (some p) 7 (zci (zx zblk xs 23 0 [some (.inr (.inr (some p))), some (.inl v1), some (.inl v7)] [] h) fun r2 h1 => (zck h1 (some p) 7 (zci (zx zblk xs 23 0 [some (.inr (.inr (some p))), some (.inl v1), some (.inl v5)] [] h1) fun r4 h3 => (if zw (r2 - r4) < 0 then zx zblk xs 49 60 [some (.inr (.inr (some p))), some (.inl v1), some (.inl v2), some (.inl v3), some (.inl v4), some (.inl v5), none, some (.inl v7)] [.inl v6] h3 else (if zw (r2 - r4) ≠ 0 then zx zblk xs 49 64 [some (.inr (.inr (some p))), some (.inl v1), some (.inl v2), some (.inl v3), some (.inl v4), some (.inl v5), none, some (.inl v7)] [.inl v6] h3 else (if zw v5 ≤ zw v7 then zx zblk xs 49 64 [some (.inr (.inr (some p))), some (.inl v1), some (.inl v2), some (.inl v3), some (.inl v4), some (.inl v5), none, some (.inl v7)] [.inl v6] h3 else zx zblk xs 49 60 [some (.inr (.inr (some p))), some (.inl v1), some (.inl v2), some (.inl v3), some (.inl v4), some (.inl v5), none, some (.inl v7)] [.inl v6] h3)))))))) := (zx_unfold zblk xs 49 18 _ rfl _ _ _).trans rfl
theorem e_M_speechAt_60 (xs : List Int) (p : Nat) (v1 : Int) (v2 : Int) (v3 : Int) (v4 : Int) (v5 : Int) (v7 : Int) (s0 : Int) (h : zH) : zx zblk xs 49 60 [some (.inr (.inr (some p))), some (.inl v1), some (.inl v2), some (.inl v3), some (.inl v4), some (.inl v5), none, some (.inl v7)] [.inl s0] h = zx zblk xs 49 65 [some (.inr (.inr (some p))), some (.inl v1), some (.inl v2), some (.inl v3), some (.inl v4), some (.inl v5), none, some (.inl v7)] [.inl 1, .inl s0] h := (zx_unfold zblk xs 49 60 _ rfl _ _ _).trans rfl
theorem e_M_speechAt_64 (xs : List Int) (p : Nat) (v1 : Int) (v2 : Int) (v3 : Int) (v4 : Int) (v5 : Int) (v7 : Int) (s0 : Int) (h : zH) : zx zblk xs 49 64 [some (.inr (.inr (some p))), some (.inl v1), some (.inl v2), some (.inl v3), some (.inl v4), some (.inl v5), none, some (.inl v7)] [.inl s0] h = zx zblk xs 49 65 [some (.inr (.inr (some p))), some (.inl v1), some (.inl v2), some (.inl v3), some (.inl v4), some (.inl v5), none, some (.inl v7)] [.inl 0, .inl s0] h := (zx_unfold zblk xs 49 64 _ rfl _ _ _).trans rfl
theorem e_M_speechAt_65 (xs : List Int) (p : Nat) (v1 : Int) (v2 : Int) (v3 : Int) (v4 : Int) (v5 : Int) (v7 : Int) (s0 : Int) (s1 : Int) (h : zH) : zx zblk xs 49 65 [some (.inr (.inr (some p))), some (.inl v1), some (.inl v2), some (.inl v3), some (.inl v4), some (.inl v5), none, some (.inl v7)] [.inl s1, .inl s0] h = zx zblk xs 49 18 [some (.inr (.inr (some p))), some (.inl v1), some (.inl v2), some (.inl v3), some (.inl v4), some (.inl v5), some (.inl (s0 + s1)), some (.inl (v7 + 1))] [] h := (zx_unfold zblk xs 49 65 _ rfl _ _ _).trans rfl
theorem e_M_speechAt_74 (xs : List Int) (p : Nat) (v1 : Int) (v2 : Int) (v3 : Int) (v4 : Int) (v5 : Int) (v6 : Int) (h : zH) : zx zblk xs 49 74 [some (.inr (.inr (some p))), some (.inl v1), some (.inl v2), some (.inl v3), some (.inl v4), some (.inl v5), some (.inl v6)] [] h = (if zw v6 ≠ zw v2 then zx zblk xs 49 85 [some (.inr (.inr (some p))), some (.inl v1), some (.inl v2), some (.inl v3), some (.inl v4), some (.inl v5)] [] h else zx zblk xs 49 87 [some (.inr (.inr (some p))), some (.inl v1), some (.inl v2), some (.inl v3), none, some (.inl v5)] [.inl v5] h) := (zx_unfold zblk xs 49 74 _ rfl _ _ _).trans rfl
theorem e_M_speechAt_85 (xs : List Int) (p : Nat) (v1 : Int) (v2 : Int) (v3 : Int) (v4 : Int) (v5 : Int) (h : zH) : zx zblk xs 49 85 [some (.inr (.inr (some p))), some (.inl v1), some (.inl v2), some (.inl v3), some (.inl v4), some (.inl v5)] [] h = zx zblk xs 49 87 [some (.inr (.inr (some p))), some (.inl v1), some (.inl v2), some (.inl v3), none, some (.inl v5)] [.inl v4] h := (zx_unfold zblk xs 49 85 _ rfl _ _ _).trans rfl
theorem e_M_speechAt_87 (xs : List Int) (p : Nat) (v1 : Int) (v2 : Int) (v3 : Int) (v5 : Int) (s0 : Int) (h : zH) : zx zblk xs 49 87 [some (.inr (.inr (some p))), some (.inl v1), some (.inl v2), some (.inl v3), none, some (.inl v5)] [.inl s0] h = zx zblk xs 49 6 [some (.inr (.inr (some p))), some (.inl v1), some (.inl v2), some (.inl v3), some (.inl s0), some (.inl (v5 + 1))] [] h := (zx_unfold zblk xs 49 87 _ rfl _ _ _).trans rfl
theorem e_M_speechAt_95 (xs : List Int) (v4 : Int) (h : zH) : zx zblk xs 49 95 [none, none, none, none, some (.inl v4)] [] h = some (some (.inl v4), h) := (zx_unfold zblk xs 49 95 _ rfl _ _ _).trans rfl
/-- MindReadersModel.dealt(II)I -/
noncomputable abbrev r_M_dealt (xs : List Int) (p : Nat) (v1 : Int) (v2 : Int) (h : zH) : Option zR := zx zblk xs 50 0 [some (.inr (.inr (some p))), some (.inl v1), some (.inl v2)] [] h
theorem e_M_dealt_0 (xs : List Int) (p : Nat) (v1 : Int) (v2 : Int) (h : zH) : zx zblk xs 50 0 [some (.inr (.inr (some p))), some (.inl v1), some (.inl v2)] [] h = (zck h (some p) 7 (zci (zx zblk xs 9 0 [some (.inr (.inr (some p))), some (.inl v1)] [] h) fun r2 h1 => (if zw r2 ≠ 0 then zx zblk xs 50 11 [some (.inr (.inr (some p))), some (.inl v1), some (.inl v2)] [] h1 else some (some (.inl (-101)), h1)))) := (zx_unfold zblk xs 50 0 _ rfl _ _ _).trans rfl
theorem e_M_dealt_11 (xs : List Int) (p : Nat) (v1 : Int) (v2 : Int) (h : zH) : zx zblk xs 50 11 [some (.inr (.inr (some p))), some (.inl v1), some (.inl v2)] [] h = (zci (zx zblk xs 43 0 [some (.inl v2)] [] h) fun r2 h1 => (if zw r2 ≠ 0 then zx zblk xs 50 35 [some (.inr (.inr (some p))), some (.inl v1), some (.inl v2)] [] h1 else (zci (zx zblk xs 2 0 [some (.inr (.inl (zw v2))), none, some (.inr (.inl 10)), none, some (.inr (.inl 17)), none] [] h1) fun r4 h3 => (if zw r4 ≠ 0 then zx zblk xs 50 35 [some (.inr (.inr (some p))), some (.inl v1), some (.inl v2)] [] h3 else some (some (.inl (-102)), h3))))) := (zx_unfold zblk xs 50 11 _ rfl _ _ _).trans rfl
theorem e_M_dealt_35 (xs : List Int) (p : Nat) (v1 : Int) (v2 : Int) (h : zH) : zx zblk xs 50 35 [some (.inr (.inr (some p))), some (.inl v1), some (.inl v2)] [] h = (zck h (some p) 7 (zci (zx zblk xs 40 0 [some (.inr (.inr (some p))), some (.inl v1)] [] h) fun r2 h1 => (if zw r2 ≠ 0 then zx zblk xs 50 48 [some (.inr (.inr (some p))), some (.inl v1), some (.inl v2), some (.inl r2)] [] h1 else some (some (.inl (-103)), h1)))) := (zx_unfold zblk xs 50 35 _ rfl _ _ _).trans rfl
theorem e_M_dealt_48 (xs : List Int) (p : Nat) (v1 : Int) (v2 : Int) (v3 : Int) (h : zH) : zx zblk xs 50 48 [some (.inr (.inr (some p))), some (.inl v1), some (.inl v2), some (.inl v3)] [] h = (if zw v2 ≤ zw 1 then zx zblk xs 50 81 [some (.inr (.inr (some p))), some (.inl v1), some (.inl v2), some (.inl v3)] [] h else (if zw v3 ≤ zw (v2 - 10) then zx zblk xs 50 79 [] [] h else (zck h (some p) 7 (zci (zx zblk xs 48 0 [some (.inr (.inr (some p))), some (.inl (v2 - 10)), some (.inl v3)] [] h) fun r2 h1 => (zck h1 (some p) 7 (zci (zx zblk xs 49 0 [some (.inr (.inr (some p))), some (.inl v1), some (.inl r2), some (.inl v3)] [] h1) fun r4 h3 => zx zblk xs 50 80 [] [.inl r4] h3)))))) := (zx_unfold zblk xs 50 48 _ rfl _ _ _).trans rfl
theorem e_M_dealt_79 (xs : List Int)  (h : zH) : zx zblk xs 50 79 [] [] h = zx zblk xs 50 80 [] [.inl (-1)] h := (zx_unfold zblk xs 50 79 _ rfl _ _ _).trans rfl
theorem e_M_dealt_80 (xs : List Int) (s0 : Int) (h : zH) : zx zblk xs 50 80 [] [.inl s0] h = some (some (.inl s0), h) := (zx_unfold zblk xs 50 80 _ rfl _ _ _).trans rfl
theorem e_M_dealt_81 (xs : List Int) (p : Nat) (v1 : Int) (v2 : Int) (v3 : Int) (h : zH) : zx zblk xs 50 81 [some (.inr (.inr (some p))), some (.inl v1), some (.inl v2), some (.inl v3)] [] h = zx zblk xs 50 87 [some (.inr (.inr (some p))), some (.inl v1), some (.inl v2), some (.inl v3), some (.inl 0), some (.inl 0)] [] h := (zx_unfold zblk xs 50 81 _ rfl _ _ _).trans rfl
theorem e_M_dealt_87 (xs : List Int) (p : Nat) (v1 : Int) (v2 : Int) (v3 : Int) (v4 : Int) (v5 : Int) (h : zH) : zx zblk xs 50 87 [some (.inr (.inr (some p))), some (.inl v1), some (.inl v2), some (.inl v3), some (.inl v4), some (.inl v5)] [] h = (if zw v3 ≤ zw v5 then zx zblk xs 50 130 [some (.inr (.inr (some p))), none, some (.inl v2), some (.inl v3), some (.inl v4)] [] h else (zgr h (some p) 7 11 fun f1 => (zai xs h f1 v5 fun a2 => (zck h (some p) 7 (zci (zx zblk xs 48 0 [some (.inr (.inr (some p))), some (.inl v5), some (.inl v3)] [] h) fun r4 h3 => (zck h3 (some p) 7 (zci (zx zblk xs 49 0 [some (.inr (.inr (some p))), some (.inl v1), some (.inl r4), some (.inl v3)] [] h3) fun r6 h5 => (zck h5 (some p) 7 (zci (zx zblk xs 23 0 [some (.inr (.inr (some p))), some (.inl v1), some (.inl r6)] [] h5) fun r8 h7 => zx zblk xs 50 87 [some (.inr (.inr (some p))), some (.inl v1), some (.inl v2), some (.inl v3), some (.inl (v4 + (a2 * r8))), some (.inl (v5 + 1))] [] h7))))))))) := (zx_unfold zblk xs 50 87 _ rfl _ _ _).trans rfl
theorem e_M_dealt_130 (xs : List Int) (p : Nat) (v2 : Int) (v3 : Int) (v4 : Int) (h : zH) : zx zblk xs 50 130 [some (.inr (.inr (some p))), none, some (.inl v2), some (.inl v3), some (.inl v4)] [] h = (zck h (some p) 7 (zci (zx zblk xs 44 0 [some (.inr (.inr (some p))), some (.inl v3)] [] h) fun r2 h1 => (zcl (zx zblk xs 42 0 [some (.inr (.inl (zw v4))), none, some (.inr (.inl (zw r2))), none, some (.inl v2)] [] h1) fun r4 h3 => some (some (.inl r4), h3)))) := (zx_unfold zblk xs 50 130 _ rfl _ _ _).trans rfl
/-- MindReadersModel.takeLeast(I)I -/
noncomputable abbrev r_M_takeLeast (xs : List Int) (p : Nat) (v1 : Int) (h : zH) : Option zR := zx zblk xs 51 0 [some (.inr (.inr (some p))), some (.inl v1)] [] h
theorem e_M_takeLeast_0 (xs : List Int) (p : Nat) (v1 : Int) (h : zH) : zx zblk xs 51 0 [some (.inr (.inr (some p))), some (.inl v1)] [] h = zx zblk xs 51 4 [some (.inr (.inr (some p))), some (.inl v1), some (.inl (-1)), some (.inl 0)] [] h := (zx_unfold zblk xs 51 0 _ rfl _ _ _).trans rfl
theorem e_M_takeLeast_4 (xs : List Int) (p : Nat) (v1 : Int) (v2 : Int) (v3 : Int) (h : zH) : zx zblk xs 51 4 [some (.inr (.inr (some p))), some (.inl v1), some (.inl v2), some (.inl v3)] [] h = (if zw v1 ≤ zw v3 then zx zblk xs 51 50 [some (.inr (.inr (some p))), none, some (.inl v2)] [] h else (zgr h (some p) 7 17 fun f1 => (zai xs h f1 v3 fun a2 => (if zw a2 < 0 then zx zblk xs 51 42 [some (.inr (.inr (some p))), some (.inl v1), some (.inl v2), some (.inl v3)] [] h else (if zw v2 = zw (-1) then zx zblk xs 51 38 [some (.inr (.inr (some p))), some (.inl v1), none, some (.inl v3)] [] h else (zgr h (some p) 7 17 fun f3 => (zai xs h f3 v3 fun a4 => (zgr h (some p) 7 17 fun f5 => (zai xs h f5 v2 fun a6 => (if zw a6 ≤ zw a4 then zx zblk xs 51 42 [some (.inr (.inr (some p))), some (.inl v1), some (.inl v2), some (.inl v3)] [] h else zx zblk xs 51 38 [some (.inr (.inr (some p))), some (.inl v1), none, some (.inl v3)] [] h)))))))))) := (zx_unfold zblk xs 51 4 _ rfl _ _ _).trans rfl
theorem e_M_takeLeast_38 (xs : List Int) (p : Nat) (v1 : Int) (v3 : Int) (h : zH) : zx zblk xs 51 38 [some (.inr (.inr (some p))), some (.inl v1), none, some (.inl v3)] [] h = zx zblk xs 51 43 [some (.inr (.inr (some p))), some (.inl v1), none, some (.inl v3)] [.inl v3] h := (zx_unfold zblk xs 51 38 _ rfl _ _ _).trans rfl
theorem e_M_takeLeast_42 (xs : List Int) (p : Nat) (v1 : Int) (v2 : Int) (v3 : Int) (h : zH) : zx zblk xs 51 42 [some (.inr (.inr (some p))), some (.inl v1), some (.inl v2), some (.inl v3)] [] h = zx zblk xs 51 43 [some (.inr (.inr (some p))), some (.inl v1), none, some (.inl v3)] [.inl v2] h := (zx_unfold zblk xs 51 42 _ rfl _ _ _).trans rfl
theorem e_M_takeLeast_43 (xs : List Int) (p : Nat) (v1 : Int) (v3 : Int) (s0 : Int) (h : zH) : zx zblk xs 51 43 [some (.inr (.inr (some p))), some (.inl v1), none, some (.inl v3)] [.inl s0] h = zx zblk xs 51 4 [some (.inr (.inr (some p))), some (.inl v1), some (.inl s0), some (.inl (v3 + 1))] [] h := (zx_unfold zblk xs 51 43 _ rfl _ _ _).trans rfl
theorem e_M_takeLeast_50 (xs : List Int) (p : Nat) (v2 : Int) (h : zH) : zx zblk xs 51 50 [some (.inr (.inr (some p))), none, some (.inl v2)] [] h = (zgr h (some p) 7 17 fun f1 => (zai xs h f1 v2 fun a2 => (zgr h (some p) 7 17 fun f3 => (zst h f3 100 v2 (.inl (-1)) fun h4 => some (some (.inl a2), h4))))) := (zx_unfold zblk xs 51 50 _ rfl _ _ _).trans rfl
/-- MindReadersModel.shortNow(I)I -/
noncomputable abbrev r_M_shortNow (xs : List Int) (p : Nat) (v1 : Int) (h : zH) : Option zR := zx zblk xs 52 0 [some (.inr (.inr (some p))), some (.inl v1)] [] h
theorem e_M_shortNow_0 (xs : List Int) (p : Nat) (v1 : Int) (h : zH) : zx zblk xs 52 0 [some (.inr (.inr (some p))), some (.inl v1)] [] h = (zgi h (some p) 7 10 fun f1 => zx zblk xs 52 5 [some (.inr (.inr (some p))), some (.inl v1), some (.inl f1)] [] h) := (zx_unfold zblk xs 52 0 _ rfl _ _ _).trans rfl
theorem e_M_shortNow_5 (xs : List Int) (p : Nat) (v1 : Int) (v2 : Int) (h : zH) : zx zblk xs 52 5 [some (.inr (.inr (some p))), some (.inl v1), some (.inl v2)] [] h = (if zw (v1 - 1) = 0 then none else (if zw ((zw (v2 - 1)).tmod (zw (v1 - 1))) ≤ 0 then zx zblk xs 52 21 [some (.inr (.inr (some p))), some (.inl v1), some (.inl v2)] [] h else zx zblk xs 52 5 [some (.inr (.inr (some p))), some (.inl v1), some (.inl (v2 + 1))] [] h)) := (zx_unfold zblk xs 52 5 _ rfl _ _ _).trans rfl
theorem e_M_shortNow_21 (xs : List Int) (p : Nat) (v1 : Int) (v2 : Int) (h : zH) : zx zblk xs 52 21 [some (.inr (.inr (some p))), some (.inl v1), some (.inl v2)] [] h = zx zblk xs 52 23 [some (.inr (.inr (some p))), some (.inl v1), some (.inl v2), some (.inl 0)] [] h := (zx_unfold zblk xs 52 21 _ rfl _ _ _).trans rfl
theorem e_M_shortNow_23 (xs : List Int) (p : Nat) (v1 : Int) (v2 : Int) (v3 : Int) (h : zH) : zx zblk xs 52 23 [some (.inr (.inr (some p))), some (.inl v1), some (.inl v2), some (.inl v3)] [] h = (if zw v2 ≤ zw v3 then zx zblk xs 52 58 [some (.inr (.inr (some p))), some (.inl v1), some (.inl v2)] [] h else (zgr h (some p) 7 17 fun f1 => (zgi h (some p) 7 10 fun f2 => (if zw f2 ≤ zw v3 then zx zblk xs 52 50 [some (.inr (.inr (some p))), some (.inl v1), some (.inl v2), some (.inl v3)] [.inl v3, .inr (.inr f1)] h else (zgr h (some p) 7 11 fun f3 => (zai xs h f3 v3 fun a4 => zx zblk xs 52 51 [some (.inr (.inr (some p))), some (.inl v1), some (.inl v2), some (.inl v3)] [.inl a4, .inl v3, .inr (.inr f1)] h)))))) := (zx_unfold zblk xs 52 23 _ rfl _ _ _).trans rfl
theorem e_M_shortNow_50 (xs : List Int) (p : Nat) (v1 : Int) (v2 : Int) (v3 : Int) (s0 : Option Nat) (s1 : Int) (h : zH) : zx zblk xs 52 50 [some (.inr (.inr (some p))), some (.inl v1), some (.inl v2), some (.inl v3)] [.inl s1, .inr (.inr s0)] h = zx zblk xs 52 51 [some (.inr (.inr (some p))), some (.inl v1), some (.inl v2), some (.inl v3)] [.inl 0, .inl s1, .inr (.inr s0)] h := (zx_unfold zblk xs 52 50 _ rfl _ _ _).trans rfl
theorem e_M_shortNow_51 (xs : List Int) (p : Nat) (v1 : Int) (v2 : Int) (v3 : Int) (s0 : Option Nat) (s1 : Int) (s2 : Int) (h : zH) : zx zblk xs 52 51 [some (.inr (.inr (some p))), some (.inl v1), some (.inl v2), some (.inl v3)] [.inl s2, .inl s1, .inr (.inr s0)] h = (zst h s0 100 s1 (.inl s2) fun h1 => zx zblk xs 52 23 [some (.inr (.inr (some p))), some (.inl v1), some (.inl v2), some (.inl (v3 + 1))] [] h1) := (zx_unfold zblk xs 52 51 _ rfl _ _ _).trans rfl
theorem e_M_shortNow_58 (xs : List Int) (p : Nat) (v1 : Int) (v2 : Int) (h : zH) : zx zblk xs 52 58 [some (.inr (.inr (some p))), some (.inl v1), some (.inl v2)] [] h = zx zblk xs 52 63 [some (.inr (.inr (some p))), some (.inl v1), some (.inl v2), some (.inl 0), some (.inl v2)] [] h := (zx_unfold zblk xs 52 58 _ rfl _ _ _).trans rfl
theorem e_M_shortNow_63 (xs : List Int) (p : Nat) (v1 : Int) (v2 : Int) (v3 : Int) (v4 : Int) (h : zH) : zx zblk xs 52 63 [some (.inr (.inr (some p))), some (.inl v1), some (.inl v2), some (.inl v3), some (.inl v4)] [] h = (if zw v4 ≤ zw 1 then zx zblk xs 52 141 [none, none, none, some (.inl v3)] [] h else zx zblk xs 52 75 [some (.inr (.inr (some p))), some (.inl v1), some (.inl v2), some (.inl v3), some (.inl v4), some (.inl 0), some (.inl 0)] [] h) := (zx_unfold zblk xs 52 63 _ rfl _ _ _).trans rfl
theorem e_M_shortNow_75 (xs : List Int) (p : Nat) (v1 : Int) (v2 : Int) (v3 : Int) (v4 : Int) (v5 : Int) (v6 : Int) (h : zH) : zx zblk xs 52 75 [some (.inr (.inr (some p))), some (.inl v1), some (.inl v2), some (.inl v3), some (.inl v4), some (.inl v5), some (.inl v6)] [] h = (if zw v1 ≤ zw v6 then zx zblk xs 52 97 [some (.inr (.inr (some p))), some (.inl v1), some (.inl v2), some (.inl v3), some (.inl v4), some (.inl v5)] [] h else (zck h (some p) 7 (zci (zx zblk xs 51 0 [some (.inr (.inr (some p))), some (.inl v2)] [] h) fun r2 h1 => zx zblk xs 52 75 [some (.inr (.inr (some p))), some (.inl v1), some (.inl v2), some (.inl v3), some (.inl v4), some (.inl (v5 + r2)), some (.inl (v6 + 1))] [] h1))) := (zx_unfold zblk xs 52 75 _ rfl _ _ _).trans rfl
theorem e_M_shortNow_97 (xs : List Int) (p : Nat) (v1 : Int) (v2 : Int) (v3 : Int) (v4 : Int) (v5 : Int) (h : zH) : zx zblk xs 52 97 [some (.inr (.inr (some p))), some (.inl v1), some (.inl v2), some (.inl v3), some (.inl v4), some (.inl v5)] [] h = zx zblk xs 52 100 [some (.inr (.inr (some p))), some (.inl v1), some (.inl v2), some (.inl v3), some (.inl v4), some (.inl v5), some (.inl 0)] [] h := (zx_unfold zblk xs 52 97 _ rfl _ _ _).trans rfl
theorem e_M_shortNow_100 (xs : List Int) (p : Nat) (v1 : Int) (v2 : Int) (v3 : Int) (v4 : Int) (v5 : Int) (v6 : Int) (h : zH) : zx zblk xs 52 100 [some (.inr (.inr (some p))), some (.inl v1), some (.inl v2), some (.inl v3), some (.inl v4), some (.inl v5), some (.inl v6)] [] h = (zgr h (some p) 7 17 fun f1 => (zai xs h f1 v6 fun a2 => (if zw a2 < 0 then zx zblk xs 52 116 [some (.inr (.inr (some p))), some (.inl v1), some (.inl v2), some (.inl v3), some (.inl v4), some (.inl v5), some (.inl v6)] [] h else zx zblk xs 52 100 [some (.inr (.inr (some p))), some (.inl v1), some (.inl v2), some (.inl v3), some (.inl v4), some (.inl v5), some (.inl (v6 + 1))] [] h))) := (zx_unfold zblk xs 52 100 _ rfl _ _ _).trans rfl
theorem e_M_shortNow_116 (xs : List Int) (p : Nat) (v1 : Int) (v2 : Int) (v3 : Int) (v4 : Int) (v5 : Int) (v6 : Int) (h : zH) : zx zblk xs 52 116 [some (.inr (.inr (some p))), some (.inl v1), some (.inl v2), some (.inl v3), some (.inl v4), some (.inl v5), some (.inl v6)] [] h = (zgr h (some p) 7 17 fun f1 => (zst h f1 100 v6 (.inl v5) fun h2 => zx zblk xs 52 63 [some (.inr (.inr (some p))), some (.inl v1), some (.inl v2), some (.inl (v3 + v5)), some (.inl (v4 - (v1 - 1)))] [] h2)) := (zx_unfold zblk xs 52 116 _ rfl _ _ _).trans rfl
theorem e_M_shortNow_141 (xs : List Int) (v3 : Int) (h : zH) : zx zblk xs 52 141 [none, none, none, some (.inl v3)] [] h = some (some (.inl v3), h) := (zx_unfold zblk xs 52 141 _ rfl _ _ _).trans rfl
/-- MindReadersModel.shortest(II)I -/
noncomputable abbrev r_M_shortest (xs : List Int) (p : Nat) (v1 : Int) (v2 : Int) (h : zH) : Option zR := zx zblk xs 53 0 [some (.inr (.inr (some p))), some (.inl v1), some (.inl v2)] [] h
theorem e_M_shortest_0 (xs : List Int) (p : Nat) (v1 : Int) (v2 : Int) (h : zH) : zx zblk xs 53 0 [some (.inr (.inr (some p))), some (.inl v1), some (.inl v2)] [] h = (zci (zx zblk xs 2 0 [some (.inr (.inl (zw v1))), none, some (.inr (.inl 2)), none, some (.inr (.inl 8)), none] [] h) fun r2 h1 => (if zw r2 = 0 then zx zblk xs 53 21 [] [] h1 else (zci (zx zblk xs 43 0 [some (.inl v2)] [] h1) fun r4 h3 => (if zw r4 ≠ 0 then zx zblk xs 53 24 [some (.inr (.inr (some p))), some (.inl v1), some (.inl v2)] [] h3 else zx zblk xs 53 21 [] [] h3)))) := (zx_unfold zblk xs 53 0 _ rfl _ _ _).trans rfl
theorem e_M_shortest_21 (xs : List Int)  (h : zH) : zx zblk xs 53 21 [] [] h = some (some (.inl (-102)), h) := (zx_unfold zblk xs 53 21 _ rfl _ _ _).trans rfl
theorem e_M_shortest_24 (xs : List Int) (p : Nat) (v1 : Int) (v2 : Int) (h : zH) : zx zblk xs 53 24 [some (.inr (.inr (some p))), some (.inl v1), some (.inl v2)] [] h = (zgi h (some p) 7 10 fun f1 => (if zw f1 ≠ 0 then zx zblk xs 53 34 [some (.inr (.inr (some p))), some (.inl v1), some (.inl v2)] [] h else some (some (.inl (-103)), h))) := (zx_unfold zblk xs 53 24 _ rfl _ _ _).trans rfl
theorem e_M_shortest_34 (xs : List Int) (p : Nat) (v1 : Int) (v2 : Int) (h : zH) : zx zblk xs 53 34 [some (.inr (.inr (some p))), some (.inl v1), some (.inl v2)] [] h = (zck h (some p) 7 (zci (zx zblk xs 52 0 [some (.inr (.inr (some p))), some (.inl v1)] [] h) fun r2 h1 => (zgi h1 (some p) 7 10 fun f3 => (zck h1 (some p) 7 (zci (zx zblk xs 44 0 [some (.inr (.inr (some p))), some (.inl f3)] [] h1) fun r5 h4 => (zcl (zx zblk xs 42 0 [some (.inr (.inl (zw r2))), none, some (.inr (.inl (zw r5))), none, some (.inl v2)] [] h4) fun r7 h6 => some (some (.inl r7), h6))))))) := (zx_unfold zblk xs 53 34 _ rfl _ _ _).trans rfl
/-- MindReadersModel.apartOf(I)I -/
noncomputable abbrev r_M_apartOf (xs : List Int) (p : Nat) (v1 : Int) (h : zH) : Option zR := zx zblk xs 54 0 [some (.inr (.inr (some p))), some (.inl v1)] [] h
theorem e_M_apartOf_0 (xs : List Int) (p : Nat) (v1 : Int) (h : zH) : zx zblk xs 54 0 [some (.inr (.inr (some p))), some (.inl v1)] [] h = (zck h (some p) 7 (zcv (zx zblk xs 22 0 [some (.inr (.inr (some p))), some (.inl v1), some (.inl 0)] [] h) fun h1 => (zgr h1 (some p) 7 6 fun f2 => (zai xs h1 f2 v1 fun a3 => (if zw 2 ≤ zw a3 then zx zblk xs 54 20 [some (.inr (.inr (some p))), some (.inl v1)] [] h1 else zx zblk xs 54 22 [some (.inr (.inr (some p))), some (.inl v1)] [.inl (-1)] h1))))) := (zx_unfold zblk xs 54 0 _ rfl _ _ _).trans rfl
theorem e_M_apartOf_20 (xs : List Int) (p : Nat) (v1 : Int) (h : zH) : zx zblk xs 54 20 [some (.inr (.inr (some p))), some (.inl v1)] [] h = zx zblk xs 54 22 [some (.inr (.inr (some p))), some (.inl v1)] [.inl 1000000] h := (zx_unfold zblk xs 54 20 _ rfl _ _ _).trans rfl
theorem e_M_apartOf_22 (xs : List Int) (p : Nat) (v1 : Int) (s0 : Int) (h : zH) : zx zblk xs 54 22 [some (.inr (.inr (some p))), some (.inl v1)] [.inl s0] h = zx zblk xs 54 25 [some (.inr (.inr (some p))), some (.inl v1), some (.inl s0), some (.inl 0)] [] h := (zx_unfold zblk xs 54 22 _ rfl _ _ _).trans rfl
theorem e_M_apartOf_25 (xs : List Int) (p : Nat) (v1 : Int) (v2 : Int) (v3 : Int) (h : zH) : zx zblk xs 54 25 [some (.inr (.inr (some p))), some (.inl v1), some (.inl v2), some (.inl v3)] [] h = (zgr h (some p) 7 6 fun f1 => (zai xs h f1 v1 fun a2 => (if zw a2 ≤ zw v3 then zx zblk xs 54 192 [none, none, some (.inl v2)] [] h else zx zblk xs 54 40 [some (.inr (.inr (some p))), some (.inl v1), some (.inl v2), some (.inl v3), some (.inl (v3 + 1))] [] h))) := (zx_unfold zblk xs 54 25 _ rfl _ _ _).trans rfl
theorem e_M_apartOf_40 (xs : List Int) (p : Nat) (v1 : Int) (v2 : Int) (v3 : Int) (v4 : Int) (h : zH) : zx zblk xs 54 40 [some (.inr (.inr (some p))), some (.inl v1), some (.inl v2), some (.inl v3), some (.inl v4)] [] h = (zgr h (some p) 7 6 fun f1 => (zai xs h f1 v1 fun a2 => (if zw a2 ≤ zw v4 then zx zblk xs 54 186 [some (.inr (.inr (some p))), some (.inl v1), some (.inl v2), some (.inl v3)] [] h else zx zblk xs 54 57 [some (.inr (.inr (some p))), some (.inl v1), some (.inl v2), some (.inl v3), some (.inl v4), some (.inl 0), some (.inl 0)] [] h))) := (zx_unfold zblk xs 54 40 _ rfl _ _ _).trans rfl
theorem e_M_apartOf_57 (xs : List Int) (p : Nat) (v1 : Int) (v2 : Int) (v3 : Int) (v4 : Int) (v5 : Int) (v6 : Int) (h : zH) : zx zblk xs 54 57 [some (.inr (.inr (some p))), some (.inl v1), some (.inl v2), some (.inl v3), some (.inl v4), some (.inl v5), some (.inl v6)] [] h = (zgr h (some p) 7 14 fun f1 => (zai xs h f1 (11 * v3) fun a2 => (if zw a2 ≤ zw v6 then zx zblk xs 54 141 [some (.inr (.inr (some p))), some (.inl v1), some (.inl v2), some (.inl v3), some (.inl v4), some (.inl v5)] [] h else (zgr h (some p) 7 14 fun f3 => (zai xs h f3 (11 * v3) fun a4 => (zgr h (some p) 7 14 fun f5 => (zai xs h f5 (11 * v4) fun a6 => (if zw a4 ≠ zw a6 then zx zblk xs 54 141 [some (.inr (.inr (some p))), some (.inl v1), some (.inl v2), some (.inl v3), some (.inl v4), some (.inl v5)] [] h else (zgr h (some p) 7 14 fun f7 => (zai xs h f7 (((11 * v3) + 1) + v6) fun a8 => (zgr h (some p) 7 14 fun f9 => (zai xs h f9 (((11 * v4) + 1) + v6) fun a10 => (if zw a8 ≠ zw a10 then zx zblk xs 54 131 [some (.inr (.inr (some p))), some (.inl v1), some (.inl v2), some (.inl v3), some (.inl v4), none, some (.inl v6)] [.inl v5] h else zx zblk xs 54 132 [some (.inr (.inr (some p))), some (.inl v1), some (.inl v2), some (.inl v3), some (.inl v4), none, some (.inl v6)] [.inl 0, .inl v5] h))))))))))))) := (zx_unfold zblk xs 54 57 _ rfl _ _ _).trans rfl
theorem e_M_apartOf_131 (xs : List Int) (p : Nat) (v1 : Int) (v2 : Int) (v3 : Int) (v4 : Int) (v6 : Int) (s0 : Int) (h : zH) : zx zblk xs 54 131 [some (.inr (.inr (some p))), some (.inl v1), some (.inl v2), some (.inl v3), some (.inl v4), none, some (.inl v6)] [.inl s0] h = zx zblk xs 54 132 [some (.inr (.inr (some p))), some (.inl v1), some (.inl v2), some (.inl v3), some (.inl v4), none, some (.inl v6)] [.inl 1, .inl s0] h := (zx_unfold zblk xs 54 131 _ rfl _ _ _).trans rfl
theorem e_M_apartOf_132 (xs : List Int) (p : Nat) (v1 : Int) (v2 : Int) (v3 : Int) (v4 : Int) (v6 : Int) (s0 : Int) (s1 : Int) (h : zH) : zx zblk xs 54 132 [some (.inr (.inr (some p))), some (.inl v1), some (.inl v2), some (.inl v3), some (.inl v4), none, some (.inl v6)] [.inl s1, .inl s0] h = zx zblk xs 54 57 [some (.inr (.inr (some p))), some (.inl v1), some (.inl v2), some (.inl v3), some (.inl v4), some (.inl (s0 + s1)), some (.inl (v6 + 1))] [] h := (zx_unfold zblk xs 54 132 _ rfl _ _ _).trans rfl
theorem e_M_apartOf_141 (xs : List Int) (p : Nat) (v1 : Int) (v2 : Int) (v3 : Int) (v4 : Int) (v5 : Int) (h : zH) : zx zblk xs 54 141 [some (.inr (.inr (some p))), some (.inl v1), some (.inl v2), some (.inl v3), some (.inl v4), some (.inl v5)] [] h = (zgr h (some p) 7 14 fun f1 => (zai xs h f1 (11 * v3) fun a2 => (zgr h (some p) 7 14 fun f3 => (zai xs h f3 (11 * v4) fun a4 => (if zw a2 = zw a4 then zx zblk xs 54 167 [some (.inr (.inr (some p))), some (.inl v1), some (.inl v2), some (.inl v3), some (.inl v4), some (.inl v5)] [] h else zx zblk xs 54 179 [some (.inr (.inr (some p))), some (.inl v1), none, some (.inl v3), some (.inl v4)] [.inl (-1)] h))))) := (zx_unfold zblk xs 54 141 _ rfl _ _ _).trans rfl
theorem e_M_apartOf_167 (xs : List Int) (p : Nat) (v1 : Int) (v2 : Int) (v3 : Int) (v4 : Int) (v5 : Int) (h : zH) : zx zblk xs 54 167 [some (.inr (.inr (some p))), some (.inl v1), some (.inl v2), some (.inl v3), some (.inl v4), some (.inl v5)] [] h = (if zw v2 ≤ zw v5 then zx zblk xs 54 178 [some (.inr (.inr (some p))), some (.inl v1), some (.inl v2), some (.inl v3), some (.inl v4)] [] h else zx zblk xs 54 179 [some (.inr (.inr (some p))), some (.inl v1), none, some (.inl v3), some (.inl v4)] [.inl v5] h) := (zx_unfold zblk xs 54 167 _ rfl _ _ _).trans rfl
theorem e_M_apartOf_178 (xs : List Int) (p : Nat) (v1 : Int) (v2 : Int) (v3 : Int) (v4 : Int) (h : zH) : zx zblk xs 54 178 [some (.inr (.inr (some p))), some (.inl v1), some (.inl v2), some (.inl v3), some (.inl v4)] [] h = zx zblk xs 54 179 [some (.inr (.inr (some p))), some (.inl v1), none, some (.inl v3), some (.inl v4)] [.inl v2] h := (zx_unfold zblk xs 54 178 _ rfl _ _ _).trans rfl
theorem e_M_apartOf_179 (xs : List Int) (p : Nat) (v1 : Int) (v3 : Int) (v4 : Int) (s0 : Int) (h : zH) : zx zblk xs 54 179 [some (.inr (.inr (some p))), some (.inl v1), none, some (.inl v3), some (.inl v4)] [.inl s0] h = zx zblk xs 54 40 [some (.inr (.inr (some p))), some (.inl v1), some (.inl s0), some (.inl v3), some (.inl (v4 + 1))] [] h := (zx_unfold zblk xs 54 179 _ rfl _ _ _).trans rfl
theorem e_M_apartOf_186 (xs : List Int) (p : Nat) (v1 : Int) (v2 : Int) (v3 : Int) (h : zH) : zx zblk xs 54 186 [some (.inr (.inr (some p))), some (.inl v1), some (.inl v2), some (.inl v3)] [] h = zx zblk xs 54 25 [some (.inr (.inr (some p))), some (.inl v1), some (.inl v2), some (.inl (v3 + 1))] [] h := (zx_unfold zblk xs 54 186 _ rfl _ _ _).trans rfl
theorem e_M_apartOf_192 (xs : List Int) (v2 : Int) (h : zH) : zx zblk xs 54 192 [none, none, some (.inl v2)] [] h = some (some (.inl v2), h) := (zx_unfold zblk xs 54 192 _ rfl _ _ _).trans rfl
/-- MindReadersModel.apart(I)I -/
noncomputable abbrev r_M_apart (xs : List Int) (p : Nat) (v1 : Int) (h : zH) : Option zR := zx zblk xs 55 0 [some (.inr (.inr (some p))), some (.inl v1)] [] h
theorem e_M_apart_0 (xs : List Int) (p : Nat) (v1 : Int) (h : zH) : zx zblk xs 55 0 [some (.inr (.inr (some p))), some (.inl v1)] [] h = (zck h (some p) 7 (zci (zx zblk xs 9 0 [some (.inr (.inr (some p))), some (.inl v1)] [] h) fun r2 h1 => (if zw r2 = 0 then zx zblk xs 55 16 [] [] h1 else (zck h1 (some p) 7 (zci (zx zblk xs 54 0 [some (.inr (.inr (some p))), some (.inl v1)] [] h1) fun r4 h3 => zx zblk xs 55 18 [] [.inl r4] h3))))) := (zx_unfold zblk xs 55 0 _ rfl _ _ _).trans rfl
theorem e_M_apart_16 (xs : List Int)  (h : zH) : zx zblk xs 55 16 [] [] h = zx zblk xs 55 18 [] [.inl (-101)] h := (zx_unfold zblk xs 55 16 _ rfl _ _ _).trans rfl
theorem e_M_apart_18 (xs : List Int) (s0 : Int) (h : zH) : zx zblk xs 55 18 [] [.inl s0] h = some (some (.inl s0), h) := (zx_unfold zblk xs 55 18 _ rfl _ _ _).trans rfl
/-- MindReadersModel.named(I)I -/
noncomputable abbrev r_M_named (xs : List Int) (p : Nat) (v1 : Int) (h : zH) : Option zR := zx zblk xs 56 0 [some (.inr (.inr (some p))), some (.inl v1)] [] h
theorem e_M_named_0 (xs : List Int) (p : Nat) (v1 : Int) (h : zH) : zx zblk xs 56 0 [some (.inr (.inr (some p))), some (.inl v1)] [] h = (zck h (some p) 7 (zci (zx zblk xs 9 0 [some (.inr (.inr (some p))), some (.inl v1)] [] h) fun r2 h1 => (if zw r2 ≠ 0 then zx zblk xs 56 11 [some (.inr (.inr (some p))), some (.inl v1)] [] h1 else some (some (.inl (-101)), h1)))) := (zx_unfold zblk xs 56 0 _ rfl _ _ _).trans rfl
theorem e_M_named_11 (xs : List Int) (p : Nat) (v1 : Int) (h : zH) : zx zblk xs 56 11 [some (.inr (.inr (some p))), some (.inl v1)] [] h = (zck h (some p) 7 (zcv (zx zblk xs 22 0 [some (.inr (.inr (some p))), some (.inl v1), some (.inl 0)] [] h) fun h1 => (zck h1 (some p) 7 (zci (zx zblk xs 28 0 [some (.inr (.inr (some p)))] [] h1) fun r3 h2 => (if zw r3 = 0 then zx zblk xs 56 32 [] [] h2 else (zck h2 (some p) 7 (zci (zx zblk xs 30 0 [some (.inr (.inr (some p))), some (.inl v1)] [] h2) fun r5 h4 => zx zblk xs 56 34 [] [.inl r5] h4))))))) := (zx_unfold zblk xs 56 11 _ rfl _ _ _).trans rfl
theorem e_M_named_32 (xs : List Int)  (h : zH) : zx zblk xs 56 32 [] [] h = zx zblk xs 56 34 [] [.inl (-103)] h := (zx_unfold zblk xs 56 32 _ rfl _ _ _).trans rfl
theorem e_M_named_34 (xs : List Int) (s0 : Int) (h : zH) : zx zblk xs 56 34 [] [.inl s0] h = some (some (.inl s0), h) := (zx_unfold zblk xs 56 34 _ rfl _ _ _).trans rfl
/-- MindReadersModel.isAmong(II)Z -/
noncomputable abbrev r_M_isAmong (xs : List Int) (p : Nat) (v1 : Int) (v2 : Int) (h : zH) : Option zR := zx zblk xs 57 0 [some (.inr (.inr (some p))), some (.inl v1), some (.inl v2)] [] h
theorem e_M_isAmong_0 (xs : List Int) (p : Nat) (v1 : Int) (v2 : Int) (h : zH) : zx zblk xs 57 0 [some (.inr (.inr (some p))), some (.inl v1), some (.inl v2)] [] h = (zgr h (some p) 7 14 fun f1 => (zai xs h f1 (11 * v1) fun a2 => (if zw 4 < zw a2 then zx zblk xs 57 17 [some (.inr (.inr (some p))), some (.inl v1), some (.inl v2)] [] h else zx zblk xs 57 18 [some (.inr (.inr (some p))), some (.inl v1), some (.inl v2)] [.inl 1] h))) := (zx_unfold zblk xs 57 0 _ rfl _ _ _).trans rfl
theorem e_M_isAmong_17 (xs : List Int) (p : Nat) (v1 : Int) (v2 : Int) (h : zH) : zx zblk xs 57 17 [some (.inr (.inr (some p))), some (.inl v1), some (.inl v2)] [] h = zx zblk xs 57 18 [some (.inr (.inr (some p))), some (.inl v1), some (.inl v2)] [.inl 0] h := (zx_unfold zblk xs 57 17 _ rfl _ _ _).trans rfl
theorem e_M_isAmong_18 (xs : List Int) (p : Nat) (v1 : Int) (v2 : Int) (s0 : Int) (h : zH) : zx zblk xs 57 18 [some (.inr (.inr (some p))), some (.inl v1), some (.inl v2)] [.inl s0] h = zx zblk xs 57 22 [some (.inr (.inr (some p))), some (.inl v1), some (.inl v2), some (.inl s0), some (.inl 0)] [] h := (zx_unfold zblk xs 57 18 _ rfl _ _ _).trans rfl
theorem e_M_isAmong_22 (xs : List Int) (p : Nat) (v1 : Int) (v2 : Int) (v3 : Int) (v4 : Int) (h : zH) : zx zblk xs 57 22 [some (.inr (.inr (some p))), some (.inl v1), some (.inl v2), some (.inl v3), some (.inl v4)] [] h = (zgr h (some p) 7 14 fun f1 => (zai xs h f1 (11 * v1) fun a2 => (if zw a2 ≤ zw v4 then zx zblk xs 57 70 [none, none, none, some (.inl v3)] [] h else (if zw v3 = 0 then zx zblk xs 57 62 [some (.inr (.inr (some p))), some (.inl v1), some (.inl v2), none, some (.inl v4)] [] h else (zgr h (some p) 7 14 fun f3 => (zai xs h f3 (((11 * v1) + 1) + v4) fun a4 => (if zw v2 ≤ zw a4 then zx zblk xs 57 62 [some (.inr (.inr (some p))), some (.inl v1), some (.inl v2), none, some (.inl v4)] [] h else zx zblk xs 57 63 [some (.inr (.inr (some p))), some (.inl v1), some (.inl v2), none, some (.inl v4)] [.inl 1] h))))))) := (zx_unfold zblk xs 57 22 _ rfl _ _ _).trans rfl
theorem e_M_isAmong_62 (xs : List Int) (p : Nat) (v1 : Int) (v2 : Int) (v4 : Int) (h : zH) : zx zblk xs 57 62 [some (.inr (.inr (some p))), some (.inl v1), some (.inl v2), none, some (.inl v4)] [] h = zx zblk xs 57 63 [some (.inr (.inr (some p))), some (.inl v1), some (.inl v2), none, some (.inl v4)] [.inl 0] h := (zx_unfold zblk xs 57 62 _ rfl _ _ _).trans rfl
theorem e_M_isAmong_63 (xs : List Int) (p : Nat) (v1 : Int) (v2 : Int) (v4 : Int) (s0 : Int) (h : zH) : zx zblk xs 57 63 [some (.inr (.inr (some p))), some (.inl v1), some (.inl v2), none, some (.inl v4)] [.inl s0] h = zx zblk xs 57 22 [some (.inr (.inr (some p))), some (.inl v1), some (.inl v2), some (.inl s0), some (.inl (v4 + 1))] [] h := (zx_unfold zblk xs 57 63 _ rfl _ _ _).trans rfl
theorem e_M_isAmong_70 (xs : List Int) (v3 : Int) (h : zH) : zx zblk xs 57 70 [none, none, none, some (.inl v3)] [] h = (if v3 = 0 ∨ v3 = 1 then some (some (.inl v3), h) else none) := (zx_unfold zblk xs 57 70 _ rfl _ _ _).trans rfl
/-- MindReadersModel.right(IIIII)J -/
noncomputable abbrev r_M_right (xs : List Int) (p : Nat) (v1 : Int) (v2 : Int) (v3 : Int) (v4 : Int) (v5 : Int) (h : zH) : Option zR := zx zblk xs 58 0 [some (.inr (.inr (some p))), some (.inl v1), some (.inl v2), some (.inl v3), some (.inl v4), some (.inl v5)] [] h
theorem e_M_right_0 (xs : List Int) (p : Nat) (v1 : Int) (v2 : Int) (v3 : Int) (v4 : Int) (v5 : Int) (h : zH) : zx zblk xs 58 0 [some (.inr (.inr (some p))), some (.inl v1), some (.inl v2), some (.inl v3), some (.inl v4), some (.inl v5)] [] h = (zck h (some p) 7 (zci (zx zblk xs 9 0 [some (.inr (.inr (some p))), some (.inl v1)] [] h) fun r2 h1 => (if zw r2 = 0 then zx zblk xs 58 25 [] [] h1 else (zck h1 (some p) 7 (zci (zx zblk xs 40 0 [some (.inr (.inr (some p))), some (.inl v1)] [] h1) fun r4 h3 => (zci (zx zblk xs 2 0 [some (.inr (.inl (zw v2))), none, some (.inr (.inl 0)), none, some (.inr (.inl (zw (r4 - 1)))), none] [] h3) fun r6 h5 => (if zw r6 ≠ 0 then zx zblk xs 58 29 [some (.inr (.inr (some p))), some (.inl v1), some (.inl v2), some (.inl v3), some (.inl v4), some (.inl v5)] [] h5 else zx zblk xs 58 25 [] [] h5))))))) := (zx_unfold zblk xs 58 0 _ rfl _ _ _).trans rfl
theorem e_M_right_25 (xs : List Int)  (h : zH) : zx zblk xs 58 25 [] [] h = some (some (.inr (.inl (-101))), h) := (zx_unfold zblk xs 58 25 _ rfl _ _ _).trans rfl
theorem e_M_right_29 (xs : List Int) (p : Nat) (v1 : Int) (v2 : Int) (v3 : Int) (v4 : Int) (v5 : Int) (h : zH) : zx zblk xs 58 29 [some (.inr (.inr (some p))), some (.inl v1), some (.inl v2), some (.inl v3), some (.inl v4), some (.inl v5)] [] h = (zci (zx zblk xs 2 0 [some (.inr (.inl (zw v3))), none, some (.inr (.inl 2)), none, some (.inr (.inl 8)), none] [] h) fun r2 h1 => (if zw r2 = 0 then zx zblk xs 58 64 [] [] h1 else (zci (zx zblk xs 2 0 [some (.inr (.inl (zw v4))), none, some (.inr (.inl 0)), none, some (.inr (.inl 10)), none] [] h1) fun r4 h3 => (if zw r4 = 0 then zx zblk xs 58 64 [] [] h3 else (zci (zx zblk xs 43 0 [some (.inl v5)] [] h3) fun r6 h5 => (if zw r6 ≠ 0 then zx zblk xs 58 68 [some (.inr (.inr (some p))), some (.inl v1), some (.inl v2), some (.inl v3), some (.inl v4), some (.inl v5)] [] h5 else zx zblk xs 58 64 [] [] h5)))))) := (zx_unfold zblk xs 58 29 _ rfl _ _ _).trans rfl
theorem e_M_right_64 (xs : List Int)  (h : zH) : zx zblk xs 58 64 [] [] h = some (some (.inr (.inl (-102))), h) := (zx_unfold zblk xs 58 64 _ rfl _ _ _).trans rfl
theorem e_M_right_68 (xs : List Int) (p : Nat) (v1 : Int) (v2 : Int) (v3 : Int) (v4 : Int) (v5 : Int) (h : zH) : zx zblk xs 58 68 [some (.inr (.inr (some p))), some (.inl v1), some (.inl v2), some (.inl v3), some (.inl v4), some (.inl v5)] [] h = (zck h (some p) 7 (zcv (zx zblk xs 22 0 [some (.inr (.inr (some p))), some (.inl v1), some (.inl 0)] [] h) fun h1 => (zck h1 (some p) 7 (zci (zx zblk xs 57 0 [some (.inr (.inr (some p))), some (.inl v2), some (.inl v3)] [] h1) fun r3 h2 => (if zw r3 ≠ 0 then zx zblk xs 58 87 [some (.inr (.inr (some p))), some (.inl v1), some (.inl v2), some (.inl v3), some (.inl v4), some (.inl v5)] [] h2 else some (some (.inr (.inl (-103))), h2)))))) := (zx_unfold zblk xs 58 68 _ rfl _ _ _).trans rfl
theorem e_M_right_87 (xs : List Int) (p : Nat) (v1 : Int) (v2 : Int) (v3 : Int) (v4 : Int) (v5 : Int) (h : zH) : zx zblk xs 58 87 [some (.inr (.inr (some p))), some (.inl v1), some (.inl v2), some (.inl v3), some (.inl v4), some (.inl v5)] [] h = (zgr h (some p) 7 14 fun f1 => (zai xs h f1 (11 * v2) fun a2 => zx zblk xs 58 107 [some (.inr (.inr (some p))), some (.inl v1), some (.inl v2), some (.inl v3), some (.inl v4), some (.inl v5), some (.inl a2), some (.inl 1), some (.inr (.inl 1)), none, some (.inl 0)] [] h)) := (zx_unfold zblk xs 58 87 _ rfl _ _ _).trans rfl
theorem e_M_right_107 (xs : List Int) (p : Nat) (v1 : Int) (v2 : Int) (v3 : Int) (v4 : Int) (v5 : Int) (v6 : Int) (v7 : Int) (v8 : Int) (v10 : Int) (h : zH) : zx zblk xs 58 107 [some (.inr (.inr (some p))), some (.inl v1), some (.inl v2), some (.inl v3), some (.inl v4), some (.inl v5), some (.inl v6), some (.inl v7), some (.inr (.inl v8)), none, some (.inl v10)] [] h = (if zw v6 ≤ zw v10 then zx zblk xs 58 139 [some (.inr (.inr (some p))), some (.inl v1), some (.inl v2), some (.inl v3), some (.inl v4), some (.inl v5), some (.inl v6), some (.inl v7), some (.inr (.inl v8))] [] h else zx zblk xs 58 107 [some (.inr (.inr (some p))), some (.inl v1), some (.inl v2), some (.inl v3), some (.inl v4), some (.inl v5), some (.inl v6), some (.inl (v7 * v3)), some (.inr (.inl (v8 * (10 * (zw (v3 - 1)))))), none, some (.inl (v10 + 1))] [] h) := (zx_unfold zblk xs 58 107 _ rfl _ _ _).trans rfl
theorem e_M_right_139 (xs : List Int) (p : Nat) (v1 : Int) (v2 : Int) (v3 : Int) (v4 : Int) (v5 : Int) (v6 : Int) (v7 : Int) (v8 : Int) (h : zH) : zx zblk xs 58 139 [some (.inr (.inr (some p))), some (.inl v1), some (.inl v2), some (.inl v3), some (.inl v4), some (.inl v5), some (.inl v6), some (.inl v7), some (.inr (.inl v8))] [] h = (zpf h (some p) 7 13 (.inl v6) fun h1 => zx zblk xs 58 151 [some (.inr (.inr (some p))), some (.inl v1), some (.inl v2), some (.inl v3), some (.inl v4), some (.inl v5), some (.inl v6), some (.inl v7), some (.inr (.inl v8)), none, some (.inr (.inl 0)), none, some (.inl 0)] [] h1) := (zx_unfold zblk xs 58 139 _ rfl _ _ _).trans rfl
theorem e_M_right_151 (xs : List Int) (p : Nat) (v1 : Int) (v2 : Int) (v3 : Int) (v4 : Int) (v5 : Int) (v6 : Int) (v7 : Int) (v8 : Int) (v10 : Int) (v12 : Int) (h : zH) : zx zblk xs 58 151 [some (.inr (.inr (some p))), some (.inl v1), some (.inl v2), some (.inl v3), some (.inl v4), some (.inl v5), some (.inl v6), some (.inl v7), some (.inr (.inl v8)), none, some (.inr (.inl v10)), none, some (.inl v12)] [] h = (if zw v7 ≤ zw v12 then zx zblk xs 58 271 [none, none, none, none, none, some (.inl v5), none, none, some (.inr (.inl v8)), none, some (.inr (.inl v10))] [] h else zx zblk xs 58 168 [some (.inr (.inr (some p))), some (.inl v1), some (.inl v2), some (.inl v3), some (.inl v4), some (.inl v5), some (.inl v6), some (.inl v7), some (.inr (.inl v8)), none, some (.inr (.inl v10)), none, some (.inl v12), some (.inl v12), some (.inr (.inl 1)), none, some (.inl 0)] [] h) := (zx_unfold zblk xs 58 151 _ rfl _ _ _).trans rfl
theorem e_M_right_168 (xs : List Int) (p : Nat) (v1 : Int) (v2 : Int) (v3 : Int) (v4 : Int) (v5 : Int) (v6 : Int) (v7 : Int) (v8 : Int) (v10 : Int) (v12 : Int) (v13 : Int) (v14 : Int) (v16 : Int) (h : zH) : zx zblk xs 58 168 [some (.inr (.inr (some p))), some (.inl v1), some (.inl v2), some (.inl v3), some (.inl v4), some (.inl v5), some (.inl v6), some (.inl v7), some (.inr (.inl v8)), none, some (.inr (.inl v10)), none, some (.inl v12), some (.inl v13), some (.inr (.inl v14)), none, some (.inl v16)] [] h = (if zw v6 ≤ zw v16 then zx zblk xs 58 245 [some (.inr (.inr (some p))), some (.inl v1), some (.inl v2), some (.inl v3), some (.inl v4), some (.inl v5), some (.inl v6), some (.inl v7), some (.inr (.inl v8)), none, some (.inr (.inl v10)), none, some (.inl v12), none, some (.inr (.inl v14))] [] h else (zgr h (some p) 7 12 fun f1 => (if zw v3 = 0 then none else (zst h f1 100 v16 (.inl ((zw v13).tmod (zw v3))) fun h2 => (if zw v3 = 0 then none else (zgr h2 (some p) 7 12 fun f3 => (zai xs h2 f3 v16 fun a4 => (zgr h2 (some p) 7 14 fun f5 => (zai xs h2 f5 (((11 * v2) + 1) + v16) fun a6 => (if zw a4 ≠ zw a6 then zx zblk xs 58 233 [some (.inr (.inr (some p))), some (.inl v1), some (.inl v2), some (.inl v3), some (.inl v4), some (.inl v5), some (.inl v6), some (.inl v7), some (.inr (.inl v8)), none, some (.inr (.inl v10)), none, some (.inl v12), some (.inl ((zw v13).tdiv (zw v3))), none, none, some (.inl v16)] [.inr (.inl v14)] h2 else zx zblk xs 58 236 [some (.inr (.inr (some p))), some (.inl v1), some (.inl v2), some (.inl v3), some (.inl v4), some (.inl v5), some (.inl v6), some (.inl v7), some (.inr (.inl v8)), none, some (.inr (.inl v10)), none, some (.inl v12), some (.inl ((zw v13).tdiv (zw v3))), none, none, some (.inl v16)] [.inr (.inl ((10 - (zw v4)) * (zw (v3 - 1)))), .inr (.inl v14)] h2)))))))))) := (zx_unfold zblk xs 58 168 _ rfl _ _ _).trans rfl
theorem e_M_right_233 (xs : List Int) (p : Nat) (v1 : Int) (v2 : Int) (v3 : Int) (v4 : Int) (v5 : Int) (v6 : Int) (v7 : Int) (v8 : Int) (v10 : Int) (v12 : Int) (v13 : Int) (v16 : Int) (s0 : Int) (h : zH) : zx zblk xs 58 233 [some (.inr (.inr (some p))), some (.inl v1), some (.inl v2), some (.inl v3), some (.inl v4), some (.inl v5), some (.inl v6), some (.inl v7), some (.inr (.inl v8)), none, some (.inr (.inl v10)), none, some (.inl v12), some (.inl v13), none, none, some (.inl v16)] [.inr (.inl s0)] h = zx zblk xs 58 236 [some (.inr (.inr (some p))), some (.inl v1), some (.inl v2), some (.inl v3), some (.inl v4), some (.inl v5), some (.inl v6), some (.inl v7), some (.inr (.inl v8)), none, some (.inr (.inl v10)), none, some (.inl v12), some (.inl v13), none, none, some (.inl v16)] [.inr (.inl (zw v4)), .inr (.inl s0)] h := (zx_unfold zblk xs 58 233 _ rfl _ _ _).trans rfl
theorem e_M_right_236 (xs : List Int) (p : Nat) (v1 : Int) (v2 : Int) (v3 : Int) (v4 : Int) (v5 : Int) (v6 : Int) (v7 : Int) (v8 : Int) (v10 : Int) (v12 : Int) (v13 : Int) (v16 : Int) (s0 : Int) (s1 : Int) (h : zH) : zx zblk xs 58 236 [some (.inr (.inr (some p))), some (.inl v1), some (.inl v2), some (.inl v3), some (.inl v4), some (.inl v5), some (.inl v6), some (.inl v7), some (.inr (.inl v8)), none, some (.inr (.inl v10)), none, some (.inl v12), some (.inl v13), none, none, some (.inl v16)] [.inr (.inl s1), .inr (.inl s0)] h = zx zblk xs 58 168 [some (.inr (.inr (some p))), some (.inl v1), some (.inl v2), some (.inl v3), some (.inl v4), some (.inl v5), some (.inl v6), some (.inl v7), some (.inr (.inl v8)), none, some (.inr (.inl v10)), none, some (.inl v12), some (.inl v13), some (.inr (.inl (s0 * s1))), none, some (.inl (v16 + 1))] [] h := (zx_unfold zblk xs 58 236 _ rfl _ _ _).trans rfl
theorem e_M_right_245 (xs : List Int) (p : Nat) (v1 : Int) (v2 : Int) (v3 : Int) (v4 : Int) (v5 : Int) (v6 : Int) (v7 : Int) (v8 : Int) (v10 : Int) (v12 : Int) (v14 : Int) (h : zH) : zx zblk xs 58 245 [some (.inr (.inr (some p))), some (.inl v1), some (.inl v2), some (.inl v3), some (.inl v4), some (.inl v5), some (.inl v6), some (.inl v7), some (.inr (.inl v8)), none, some (.inr (.inl v10)), none, some (.inl v12), none, some (.inr (.inl v14))] [] h = (zck h (some p) 7 (zci (zx zblk xs 30 0 [some (.inr (.inr (some p))), some (.inl v1)] [] h) fun r2 h1 => (if zw r2 ≠ zw v2 then zx zblk xs 58 261 [some (.inr (.inr (some p))), some (.inl v1), some (.inl v2), some (.inl v3), some (.inl v4), some (.inl v5), some (.inl v6), some (.inl v7), some (.inr (.inl v8)), none, none, none, some (.inl v12)] [.inr (.inl v10)] h1 else zx zblk xs 58 262 [some (.inr (.inr (some p))), some (.inl v1), some (.inl v2), some (.inl v3), some (.inl v4), some (.inl v5), some (.inl v6), some (.inl v7), some (.inr (.inl v8)), none, none, none, some (.inl v12)] [.inr (.inl v14), .inr (.inl v10)] h1))) := (zx_unfold zblk xs 58 245 _ rfl _ _ _).trans rfl
theorem e_M_right_261 (xs : List Int) (p : Nat) (v1 : Int) (v2 : Int) (v3 : Int) (v4 : Int) (v5 : Int) (v6 : Int) (v7 : Int) (v8 : Int) (v12 : Int) (s0 : Int) (h : zH) : zx zblk xs 58 261 [some (.inr (.inr (some p))), some (.inl v1), some (.inl v2), some (.inl v3), some (.inl v4), some (.inl v5), some (.inl v6), some (.inl v7), some (.inr (.inl v8)), none, none, none, some (.inl v12)] [.inr (.inl s0)] h = zx zblk xs 58 262 [some (.inr (.inr (some p))), some (.inl v1), some (.inl v2), some (.inl v3), some (.inl v4), some (.inl v5), some (.inl v6), some (.inl v7), some (.inr (.inl v8)), none, none, none, some (.inl v12)] [.inr (.inl 0), .inr (.inl s0)] h := (zx_unfold zblk xs 58 261 _ rfl _ _ _).trans rfl
theorem e_M_right_262 (xs : List Int) (p : Nat) (v1 : Int) (v2 : Int) (v3 : Int) (v4 : Int) (v5 : Int) (v6 : Int) (v7 : Int) (v8 : Int) (v12 : Int) (s0 : Int) (s1 : Int) (h : zH) : zx zblk xs 58 262 [some (.inr (.inr (some p))), some (.inl v1), some (.inl v2), some (.inl v3), some (.inl v4), some (.inl v5), some (.inl v6), some (.inl v7), some (.inr (.inl v8)), none, none, none, some (.inl v12)] [.inr (.inl s1), .inr (.inl s0)] h = zx zblk xs 58 151 [some (.inr (.inr (some p))), some (.inl v1), some (.inl v2), some (.inl v3), some (.inl v4), some (.inl v5), some (.inl v6), some (.inl v7), some (.inr (.inl v8)), none, some (.inr (.inl (s0 + s1))), none, some (.inl (v12 + 1))] [] h := (zx_unfold zblk xs 58 262 _ rfl _ _ _).trans rfl
theorem e_M_right_271 (xs : List Int) (v5 : Int) (v8 : Int) (v10 : Int) (h : zH) : zx zblk xs 58 271 [none, none, none, none, none, some (.inl v5), none, none, some (.inr (.inl v8)), none, some (.inr (.inl v10))] [] h = (zcl (zx zblk xs 42 0 [some (.inr (.inl v10)), none, some (.inr (.inl v8)), none, some (.inl v5)] [] h) fun r2 h1 => some (some (.inr (.inl r2)), h1)) := (zx_unfold zblk xs 58 271 _ rfl _ _ _).trans rfl
/-- MindReadersModel.note(I)I -/
noncomputable abbrev r_M_note (xs : List Int) (p : Nat) (v1 : Int) (h : zH) : Option zR := zx zblk xs 59 0 [some (.inr (.inr (some p))), some (.inl v1)] [] h
theorem e_M_note_0 (xs : List Int) (p : Nat) (v1 : Int) (h : zH) : zx zblk xs 59 0 [some (.inr (.inr (some p))), some (.inl v1)] [] h = (zck h (some p) 7 (zci (zx zblk xs 15 0 [some (.inr (.inr (some p))), some (.inl v1)] [] h) fun r2 h1 => (if zw r2 ≠ 0 then zx zblk xs 59 11 [some (.inr (.inr (some p))), some (.inl v1)] [] h1 else some (some (.inl (-101)), h1)))) := (zx_unfold zblk xs 59 0 _ rfl _ _ _).trans rfl
theorem e_M_note_11 (xs : List Int) (p : Nat) (v1 : Int) (h : zH) : zx zblk xs 59 11 [some (.inr (.inr (some p))), some (.inl v1)] [] h = (zck h (some p) 7 (zci (zx zblk xs 28 0 [some (.inr (.inr (some p)))] [] h) fun r2 h1 => (if zw r2 = 0 then zx zblk xs 59 27 [] [] h1 else (zgi h1 (some p) 7 1 fun f3 => (if zw f3 ≤ zw 8 then zx zblk xs 59 30 [some (.inr (.inr (some p))), some (.inl v1)] [] h1 else zx zblk xs 59 27 [] [] h1))))) := (zx_unfold zblk xs 59 11 _ rfl _ _ _).trans rfl
theorem e_M_note_27 (xs : List Int)  (h : zH) : zx zblk xs 59 27 [] [] h = some (some (.inl (-103)), h) := (zx_unfold zblk xs 59 27 _ rfl _ _ _).trans rfl
theorem e_M_note_30 (xs : List Int) (p : Nat) (v1 : Int) (h : zH) : zx zblk xs 59 30 [some (.inr (.inr (some p))), some (.inl v1)] [] h = (zgi h (some p) 7 18 fun f1 => (if zw f1 ≠ zw 10 then zx zblk xs 59 42 [some (.inr (.inr (some p))), some (.inl v1)] [] h else some (some (.inl (-104)), h))) := (zx_unfold zblk xs 59 30 _ rfl _ _ _).trans rfl
theorem e_M_note_42 (xs : List Int) (p : Nat) (v1 : Int) (h : zH) : zx zblk xs 59 42 [some (.inr (.inr (some p))), some (.inl v1)] [] h = (zgr h (some p) 7 19 fun f1 => (zgi h (some p) 7 18 fun f2 => (zst h f1 100 (10 * f2) (.inl v1) fun h3 => (zgr h3 (some p) 7 19 fun f4 => (zgi h3 (some p) 7 18 fun f5 => (zgi h3 (some p) 7 1 fun f6 => (zst h3 f4 100 ((10 * f5) + 1) (.inl f6) fun h7 => zx zblk xs 59 75 [some (.inr (.inr (some p))), none, some (.inl 0)] [] h7))))))) := (zx_unfold zblk xs 59 42 _ rfl _ _ _).trans rfl
theorem e_M_note_75 (xs : List Int) (p : Nat) (v2 : Int) (h : zH) : zx zblk xs 59 75 [some (.inr (.inr (some p))), none, some (.inl v2)] [] h = (zgi h (some p) 7 1 fun f1 => (if zw f1 ≤ zw v2 then zx zblk xs 59 114 [some (.inr (.inr (some p)))] [] h else (zgr h (some p) 7 19 fun f2 => (zgi h (some p) 7 18 fun f3 => (zgr h (some p) 7 0 fun f4 => (zai xs h f4 v2 fun a5 => (zst h f2 100 (((10 * f3) + 2) + v2) (.inl (a5 - 97)) fun h6 => zx zblk xs 59 75 [some (.inr (.inr (some p))), none, some (.inl (v2 + 1))] [] h6))))))) := (zx_unfold zblk xs 59 75 _ rfl _ _ _).trans rfl
theorem e_M_note_114 (xs : List Int) (p : Nat) (h : zH) : zx zblk xs 59 114 [some (.inr (.inr (some p)))] [] h = (zgi h (some p) 7 18 fun f1 => (zpf h (some p) 7 18 (.inl (f1 + 1)) fun h2 => (zpf h2 (some p) 7 1 (.inl 0) fun h3 => (zgi h3 (some p) 7 18 fun f4 => some (some (.inl f4), h3))))) := (zx_unfold zblk xs 59 114 _ rfl _ _ _).trans rfl
/-- MindReadersModel.forget()I -/
noncomputable abbrev r_M_forget (xs : List Int) (p : Nat) (h : zH) : Option zR := zx zblk xs 60 0 [some (.inr (.inr (some p)))] [] h
theorem e_M_forget_0 (xs : List Int) (p : Nat) (h : zH) : zx zblk xs 60 0 [some (.inr (.inr (some p)))] [] h = (zgi h (some p) 7 18 fun f1 => (zpf h (some p) 7 18 (.inl 0) fun h2 => some (some (.inl f1), h2))) := (zx_unfold zblk xs 60 0 _ rfl _ _ _).trans rfl
/-- MindReadersModel.isSaid(III)Z -/
noncomputable abbrev r_M_isSaid (xs : List Int) (p : Nat) (v1 : Int) (v2 : Int) (v3 : Int) (h : zH) : Option zR := zx zblk xs 61 0 [some (.inr (.inr (some p))), some (.inl v1), some (.inl v2), some (.inl v3)] [] h
theorem e_M_isSaid_0 (xs : List Int) (p : Nat) (v1 : Int) (v2 : Int) (v3 : Int) (h : zH) : zx zblk xs 61 0 [some (.inr (.inr (some p))), some (.inl v1), some (.inl v2), some (.inl v3)] [] h = (zgr h (some p) 7 6 fun f1 => (zai xs h f1 v2 fun a2 => (if zw v3 < zw a2 then zx zblk xs 61 12 [some (.inr (.inr (some p))), some (.inl v1), none, some (.inl v3)] [] h else (if 0 = 0 ∨ 0 = 1 then some (some (.inl 0), h) else none)))) := (zx_unfold zblk xs 61 0 _ rfl _ _ _).trans rfl
theorem e_M_isSaid_12 (xs : List Int) (p : Nat) (v1 : Int) (v3 : Int) (h : zH) : zx zblk xs 61 12 [some (.inr (.inr (some p))), some (.inl v1), none, some (.inl v3)] [] h = (zpf h (some p) 7 13 (.inl 0) fun h1 => zx zblk xs 61 20 [some (.inr (.inr (some p))), some (.inl v1), none, some (.inl v3), some (.inl 0)] [] h1) := (zx_unfold zblk xs 61 12 _ rfl _ _ _).trans rfl
theorem e_M_isSaid_20 (xs : List Int) (p : Nat) (v1 : Int) (v3 : Int) (v4 : Int) (h : zH) : zx zblk xs 61 20 [some (.inr (.inr (some p))), some (.inl v1), none, some (.inl v3), some (.inl v4)] [] h = (zgr h (some p) 7 19 fun f1 => (zai xs h f1 ((10 * v1) + 1) fun a2 => (if zw a2 ≤ zw v4 then zx zblk xs 61 60 [some (.inr (.inr (some p))), none, none, some (.inl v3)] [] h else (zgr h (some p) 7 19 fun f3 => (zai xs h f3 (((10 * v1) + 2) + v4) fun a4 => (zck h (some p) 7 (zcv (zx zblk xs 20 0 [some (.inr (.inr (some p))), some (.inl a4)] [] h) fun h5 => zx zblk xs 61 20 [some (.inr (.inr (some p))), some (.inl v1), none, some (.inl v3), some (.inl (v4 + 1))] [] h5))))))) := (zx_unfold zblk xs 61 20 _ rfl _ _ _).trans rfl
theorem e_M_isSaid_60 (xs : List Int) (p : Nat) (v3 : Int) (h : zH) : zx zblk xs 61 60 [some (.inr (.inr (some p))), none, none, some (.inl v3)] [] h = (zck h (some p) 7 (zci (zx zblk xs 29 0 [some (.inr (.inr (some p))), some (.inl v3)] [] h) fun r2 h1 => (if zw r2 ≠ 0 then zx zblk xs 61 72 [] [] h1 else zx zblk xs 61 73 [] [.inl 1] h1))) := (zx_unfold zblk xs 61 60 _ rfl _ _ _).trans rfl
theorem e_M_isSaid_72 (xs : List Int)  (h : zH) : zx zblk xs 61 72 [] [] h = zx zblk xs 61 73 [] [.inl 0] h := (zx_unfold zblk xs 61 72 _ rfl _ _ _).trans rfl
theorem e_M_isSaid_73 (xs : List Int) (s0 : Int) (h : zH) : zx zblk xs 61 73 [] [.inl s0] h = (if s0 = 0 ∨ s0 = 1 then some (some (.inl s0), h) else none) := (zx_unfold zblk xs 61 73 _ rfl _ _ _).trans rfl
/-- MindReadersModel.whichNow()I -/
noncomputable abbrev r_M_whichNow (xs : List Int) (p : Nat) (h : zH) : Option zR := zx zblk xs 62 0 [some (.inr (.inr (some p)))] [] h
theorem e_M_whichNow_0 (xs : List Int) (p : Nat) (h : zH) : zx zblk xs 62 0 [some (.inr (.inr (some p)))] [] h = zx zblk xs 62 4 [some (.inr (.inr (some p))), some (.inl 0), some (.inl 0)] [] h := (zx_unfold zblk xs 62 0 _ rfl _ _ _).trans rfl
theorem e_M_whichNow_4 (xs : List Int) (p : Nat) (v1 : Int) (v2 : Int) (h : zH) : zx zblk xs 62 4 [some (.inr (.inr (some p))), some (.inl v1), some (.inl v2)] [] h = (zgi h (some p) 7 5 fun f1 => (if zw f1 ≤ zw v2 then zx zblk xs 62 88 [none, some (.inl v1)] [] h else (zck h (some p) 7 (zcv (zx zblk xs 22 0 [some (.inr (.inr (some p))), some (.inl v2), some (.inl 0)] [] h) fun h2 => zx zblk xs 62 23 [some (.inr (.inr (some p))), some (.inl v1), some (.inl v2), some (.inl 1), some (.inl 0)] [] h2)))) := (zx_unfold zblk xs 62 4 _ rfl _ _ _).trans rfl
theorem e_M_whichNow_23 (xs : List Int) (p : Nat) (v1 : Int) (v2 : Int) (v3 : Int) (v4 : Int) (h : zH) : zx zblk xs 62 23 [some (.inr (.inr (some p))), some (.inl v1), some (.inl v2), some (.inl v3), some (.inl v4)] [] h = (zgi h (some p) 7 18 fun f1 => (if zw f1 ≤ zw v4 then zx zblk xs 62 68 [some (.inr (.inr (some p))), some (.inl v1), some (.inl v2), some (.inl v3)] [] h else (if zw v3 = 0 then zx zblk xs 62 60 [some (.inr (.inr (some p))), some (.inl v1), some (.inl v2), none, some (.inl v4)] [] h else (zgr h (some p) 7 19 fun f2 => (zai xs h f2 (10 * v4) fun a3 => (zck h (some p) 7 (zci (zx zblk xs 61 0 [some (.inr (.inr (some p))), some (.inl v4), some (.inl v2), some (.inl a3)] [] h) fun r5 h4 => (if zw r5 = 0 then zx zblk xs 62 60 [some (.inr (.inr (some p))), some (.inl v1), some (.inl v2), none, some (.inl v4)] [] h4 else zx zblk xs 62 61 [some (.inr (.inr (some p))), some (.inl v1), some (.inl v2), none, some (.inl v4)] [.inl 1] h4)))))))) := (zx_unfold zblk xs 62 23 _ rfl _ _ _).trans rfl
theorem e_M_whichNow_60 (xs : List Int) (p : Nat) (v1 : Int) (v2 : Int) (v4 : Int) (h : zH) : zx zblk xs 62 60 [some (.inr (.inr (some p))), some (.inl v1), some (.inl v2), none, some (.inl v4)] [] h = zx zblk xs 62 61 [some (.inr (.inr (some p))), some (.inl v1), some (.inl v2), none, some (.inl v4)] [.inl 0] h := (zx_unfold zblk xs 62 60 _ rfl _ _ _).trans rfl
theorem e_M_whichNow_61 (xs : List Int) (p : Nat) (v1 : Int) (v2 : Int) (v4 : Int) (s0 : Int) (h : zH) : zx zblk xs 62 61 [some (.inr (.inr (some p))), some (.inl v1), some (.inl v2), none, some (.inl v4)] [.inl s0] h = zx zblk xs 62 23 [some (.inr (.inr (some p))), some (.inl v1), some (.inl v2), some (.inl s0), some (.inl (v4 + 1))] [] h := (zx_unfold zblk xs 62 61 _ rfl _ _ _).trans rfl
theorem e_M_whichNow_68 (xs : List Int) (p : Nat) (v1 : Int) (v2 : Int) (v3 : Int) (h : zH) : zx zblk xs 62 68 [some (.inr (.inr (some p))), some (.inl v1), some (.inl v2), some (.inl v3)] [] h = (if zw v3 = 0 then zx zblk xs 62 79 [some (.inr (.inr (some p))), none, some (.inl v2)] [.inl v1] h else zx zblk xs 62 80 [some (.inr (.inr (some p))), none, some (.inl v2)] [.inl (zshl 1 v2), .inl v1] h) := (zx_unfold zblk xs 62 68 _ rfl _ _ _).trans rfl
theorem e_M_whichNow_79 (xs : List Int) (p : Nat) (v2 : Int) (s0 : Int) (h : zH) : zx zblk xs 62 79 [some (.inr (.inr (some p))), none, some (.inl v2)] [.inl s0] h = zx zblk xs 62 80 [some (.inr (.inr (some p))), none, some (.inl v2)] [.inl 0, .inl s0] h := (zx_unfold zblk xs 62 79 _ rfl _ _ _).trans rfl
theorem e_M_whichNow_80 (xs : List Int) (p : Nat) (v2 : Int) (s0 : Int) (s1 : Int) (h : zH) : zx zblk xs 62 80 [some (.inr (.inr (some p))), none, some (.inl v2)] [.inl s1, .inl s0] h = zx zblk xs 62 4 [some (.inr (.inr (some p))), some (.inl (zor s0 s1)), some (.inl (v2 + 1))] [] h := (zx_unfold zblk xs 62 80 _ rfl _ _ _).trans rfl
theorem e_M_whichNow_88 (xs : List Int) (v1 : Int) (h : zH) : zx zblk xs 62 88 [none, some (.inl v1)] [] h = some (some (.inl v1), h) := (zx_unfold zblk xs 62 88 _ rfl _ _ _).trans rfl
/-- MindReadersModel.which()I -/
noncomputable abbrev r_M_which (xs : List Int) (p : Nat) (h : zH) : Option zR := zx zblk xs 63 0 [some (.inr (.inr (some p)))] [] h
theorem e_M_which_0 (xs : List Int) (p : Nat) (h : zH) : zx zblk xs 63 0 [some (.inr (.inr (some p)))] [] h = (zck h (some p) 7 (zci (zx zblk xs 62 0 [some (.inr (.inr (some p)))] [] h) fun r2 h1 => some (some (.inl r2), h1))) := (zx_unfold zblk xs 63 0 _ rfl _ _ _).trans rfl
/-- MindReadersModel.step(II)I -/
noncomputable abbrev r_M_step (xs : List Int) (p : Nat) (v1 : Int) (v2 : Int) (h : zH) : Option zR := zx zblk xs 64 0 [some (.inr (.inr (some p))), some (.inl v1), some (.inl v2)] [] h
theorem e_M_step_0 (xs : List Int) (p : Nat) (v1 : Int) (v2 : Int) (h : zH) : zx zblk xs 64 0 [some (.inr (.inr (some p))), some (.inl v1), some (.inl v2)] [] h = (zck h (some p) 7 (zci (zx zblk xs 9 0 [some (.inr (.inr (some p))), some (.inl v1)] [] h) fun r2 h1 => (if zw r2 ≠ 0 then zx zblk xs 64 11 [some (.inr (.inr (some p))), some (.inl v1), some (.inl v2)] [] h1 else some (some (.inl (-101)), h1)))) := (zx_unfold zblk xs 64 0 _ rfl _ _ _).trans rfl
theorem e_M_step_11 (xs : List Int) (p : Nat) (v1 : Int) (v2 : Int) (h : zH) : zx zblk xs 64 11 [some (.inr (.inr (some p))), some (.inl v1), some (.inl v2)] [] h = (zci (zx zblk xs 2 0 [some (.inr (.inl (zw v2))), none, some (.inr (.inl 0)), none, some (.inr (.inl 99)), none] [] h) fun r2 h1 => (if zw r2 ≠ 0 then zx zblk xs 64 26 [some (.inr (.inr (some p))), some (.inl v1), some (.inl v2)] [] h1 else some (some (.inl (-102)), h1))) := (zx_unfold zblk xs 64 11 _ rfl _ _ _).trans rfl
theorem e_M_step_26 (xs : List Int) (p : Nat) (v1 : Int) (v2 : Int) (h : zH) : zx zblk xs 64 26 [some (.inr (.inr (some p))), some (.inl v1), some (.inl v2)] [] h = (zck h (some p) 7 (zci (zx zblk xs 40 0 [some (.inr (.inr (some p))), some (.inl v1)] [] h) fun r2 h1 => (if zw r2 ≠ 0 then zx zblk xs 64 39 [some (.inr (.inr (some p))), some (.inl v1), some (.inl v2), some (.inl r2)] [] h1 else some (some (.inl (-103)), h1)))) := (zx_unfold zblk xs 64 26 _ rfl _ _ _).trans rfl
theorem e_M_step_39 (xs : List Int) (p : Nat) (v1 : Int) (v2 : Int) (v3 : Int) (h : zH) : zx zblk xs 64 39 [some (.inr (.inr (some p))), some (.inl v1), some (.inl v2), some (.inl v3)] [] h = (zck h (some p) 7 (zcv (zx zblk xs 22 0 [some (.inr (.inr (some p))), some (.inl v1), some (.inl 0)] [] h) fun h1 => zx zblk xs 64 48 [some (.inr (.inr (some p))), some (.inl v1), some (.inl v2), some (.inl v3), some (.inl 0)] [] h1)) := (zx_unfold zblk xs 64 39 _ rfl _ _ _).trans rfl
theorem e_M_step_48 (xs : List Int) (p : Nat) (v1 : Int) (v2 : Int) (v3 : Int) (v4 : Int) (h : zH) : zx zblk xs 64 48 [some (.inr (.inr (some p))), some (.inl v1), some (.inl v2), some (.inl v3), some (.inl v4)] [] h = (if zw 8 ≤ zw v4 then zx zblk xs 64 139 [] [] h else zx zblk xs 64 61 [some (.inr (.inr (some p))), some (.inl v1), some (.inl v2), some (.inl v3), some (.inl v4), some (.inl 1), some (.inl 0)] [] h) := (zx_unfold zblk xs 64 48 _ rfl _ _ _).trans rfl
theorem e_M_step_61 (xs : List Int) (p : Nat) (v1 : Int) (v2 : Int) (v3 : Int) (v4 : Int) (v5 : Int) (v6 : Int) (h : zH) : zx zblk xs 64 61 [some (.inr (.inr (some p))), some (.inl v1), some (.inl v2), some (.inl v3), some (.inl v4), some (.inl v5), some (.inl v6)] [] h = (zgi h (some p) 7 18 fun f1 => (if zw f1 ≤ zw v6 then zx zblk xs 64 125 [some (.inr (.inr (some p))), some (.inl v1), some (.inl v2), some (.inl v3), some (.inl v4), some (.inl v5)] [] h else (zgr h (some p) 7 19 fun f2 => (zai xs h f2 (10 * v6) fun a3 => (if zw v5 = 0 then zx zblk xs 64 116 [some (.inr (.inr (some p))), some (.inl v1), some (.inl v2), some (.inl v3), some (.inl v4), none, some (.inl v6)] [] h else (if zw v3 ≤ zw a3 then zx zblk xs 64 116 [some (.inr (.inr (some p))), some (.inl v1), some (.inl v2), some (.inl v3), some (.inl v4), none, some (.inl v6)] [] h else (if zw v3 = 0 then none else (zck h (some p) 7 (zci (zx zblk xs 61 0 [some (.inr (.inr (some p))), some (.inl v6), some (.inl v1), some (.inl ((zw (a3 + (v4 * v2))).tmod (zw v3)))] [] h) fun r5 h4 => (if zw r5 = 0 then zx zblk xs 64 116 [some (.inr (.inr (some p))), some (.inl v1), some (.inl v2), some (.inl v3), some (.inl v4), none, some (.inl v6)] [] h4 else zx zblk xs 64 117 [some (.inr (.inr (some p))), some (.inl v1), some (.inl v2), some (.inl v3), some (.inl v4), none, some (.inl v6)] [.inl 1] h4)))))))))) := (zx_unfold zblk xs 64 61 _ rfl _ _ _).trans rfl
theorem e_M_step_116 (xs : List Int) (p : Nat) (v1 : Int) (v2 : Int) (v3 : Int) (v4 : Int) (v6 : Int) (h : zH) : zx zblk xs 64 116 [some (.inr (.inr (some p))), some (.inl v1), some (.inl v2), some (.inl v3), some (.inl v4), none, some (.inl v6)] [] h = zx zblk xs 64 117 [some (.inr (.inr (some p))), some (.inl v1), some (.inl v2), some (.inl v3), some (.inl v4), none, some (.inl v6)] [.inl 0] h := (zx_unfold zblk xs 64 116 _ rfl _ _ _).trans rfl
theorem e_M_step_117 (xs : List Int) (p : Nat) (v1 : Int) (v2 : Int) (v3 : Int) (v4 : Int) (v6 : Int) (s0 : Int) (h : zH) : zx zblk xs 64 117 [some (.inr (.inr (some p))), some (.inl v1), some (.inl v2), some (.inl v3), some (.inl v4), none, some (.inl v6)] [.inl s0] h = zx zblk xs 64 61 [some (.inr (.inr (some p))), some (.inl v1), some (.inl v2), some (.inl v3), some (.inl v4), some (.inl s0), some (.inl (v6 + 1))] [] h := (zx_unfold zblk xs 64 117 _ rfl _ _ _).trans rfl
theorem e_M_step_125 (xs : List Int) (p : Nat) (v1 : Int) (v2 : Int) (v3 : Int) (v4 : Int) (v5 : Int) (h : zH) : zx zblk xs 64 125 [some (.inr (.inr (some p))), some (.inl v1), some (.inl v2), some (.inl v3), some (.inl v4), some (.inl v5)] [] h = (if zw v5 = 0 then zx zblk xs 64 133 [some (.inr (.inr (some p))), some (.inl v1), some (.inl v2), some (.inl v3), some (.inl v4)] [] h else some (some (.inl v4), h)) := (zx_unfold zblk xs 64 125 _ rfl _ _ _).trans rfl
theorem e_M_step_133 (xs : List Int) (p : Nat) (v1 : Int) (v2 : Int) (v3 : Int) (v4 : Int) (h : zH) : zx zblk xs 64 133 [some (.inr (.inr (some p))), some (.inl v1), some (.inl v2), some (.inl v3), some (.inl v4)] [] h = zx zblk xs 64 48 [some (.inr (.inr (some p))), some (.inl v1), some (.inl v2), some (.inl v3), some (.inl (v4 + 1))] [] h := (zx_unfold zblk xs 64 133 _ rfl _ _ _).trans rfl
theorem e_M_step_139 (xs : List Int)  (h : zH) : zx zblk xs 64 139 [] [] h = some (some (.inl (-1)), h) := (zx_unfold zblk xs 64 139 _ rfl _ _ _).trans rfl
/-- MindReadersModel.seen(II)J -/
noncomputable abbrev r_M_seen (xs : List Int) (p : Nat) (v1 : Int) (v2 : Int) (h : zH) : Option zR := zx zblk xs 65 0 [some (.inr (.inr (some p))), some (.inl v1), some (.inl v2)] [] h
theorem e_M_seen_0 (xs : List Int) (p : Nat) (v1 : Int) (v2 : Int) (h : zH) : zx zblk xs 65 0 [some (.inr (.inr (some p))), some (.inl v1), some (.inl v2)] [] h = (zci (zx zblk xs 2 0 [some (.inr (.inl (zw v1))), none, some (.inr (.inl 1)), none, some (.inr (.inl 6)), none] [] h) fun r2 h1 => (if zw r2 = 0 then zx zblk xs 65 19 [] [] h1 else (zci (zx zblk xs 43 0 [some (.inl v2)] [] h1) fun r4 h3 => (if zw r4 ≠ 0 then zx zblk xs 65 23 [some (.inr (.inr (some p))), some (.inl v1), some (.inl v2)] [] h3 else zx zblk xs 65 19 [] [] h3)))) := (zx_unfold zblk xs 65 0 _ rfl _ _ _).trans rfl
theorem e_M_seen_19 (xs : List Int)  (h : zH) : zx zblk xs 65 19 [] [] h = some (some (.inr (.inl (-102))), h) := (zx_unfold zblk xs 65 19 _ rfl _ _ _).trans rfl
theorem e_M_seen_23 (xs : List Int) (p : Nat) (v1 : Int) (v2 : Int) (h : zH) : zx zblk xs 65 23 [some (.inr (.inr (some p))), some (.inl v1), some (.inl v2)] [] h = (zgi h (some p) 7 10 fun f1 => (if zw f1 ≠ 0 then zx zblk xs 65 34 [some (.inr (.inr (some p))), some (.inl v1), some (.inl v2)] [] h else some (some (.inr (.inl (-103))), h))) := (zx_unfold zblk xs 65 23 _ rfl _ _ _).trans rfl
theorem e_M_seen_34 (xs : List Int) (p : Nat) (v1 : Int) (v2 : Int) (h : zH) : zx zblk xs 65 34 [some (.inr (.inr (some p))), some (.inl v1), some (.inl v2)] [] h = zx zblk xs 65 36 [some (.inr (.inr (some p))), some (.inl v1), some (.inl v2), some (.inl 0)] [] h := (zx_unfold zblk xs 65 34 _ rfl _ _ _).trans rfl
theorem e_M_seen_36 (xs : List Int) (p : Nat) (v1 : Int) (v2 : Int) (v3 : Int) (h : zH) : zx zblk xs 65 36 [some (.inr (.inr (some p))), some (.inl v1), some (.inl v2), some (.inl v3)] [] h = (if zw 256 ≤ zw v3 then zx zblk xs 65 64 [some (.inr (.inr (some p))), some (.inl v1), some (.inl v2)] [] h else (zgr h (some p) 7 20 fun f1 => (if zw v3 ≠ 0 then zx zblk xs 65 56 [some (.inr (.inr (some p))), some (.inl v1), some (.inl v2), some (.inl v3)] [.inl v3, .inr (.inr f1)] h else zx zblk xs 65 57 [some (.inr (.inr (some p))), some (.inl v1), some (.inl v2), some (.inl v3)] [.inr (.inl 1), .inl v3, .inr (.inr f1)] h))) := (zx_unfold zblk xs 65 36 _ rfl _ _ _).trans rfl
theorem e_M_seen_56 (xs : List Int) (p : Nat) (v1 : Int) (v2 : Int) (v3 : Int) (s0 : Option Nat) (s1 : Int) (h : zH) : zx zblk xs 65 56 [some (.inr (.inr (some p))), some (.inl v1), some (.inl v2), some (.inl v3)] [.inl s1, .inr (.inr s0)] h = zx zblk xs 65 57 [some (.inr (.inr (some p))), some (.inl v1), some (.inl v2), some (.inl v3)] [.inr (.inl 0), .inl s1, .inr (.inr s0)] h := (zx_unfold zblk xs 65 56 _ rfl _ _ _).trans rfl
theorem e_M_seen_57 (xs : List Int) (p : Nat) (v1 : Int) (v2 : Int) (v3 : Int) (s0 : Option Nat) (s1 : Int) (s2 : Int) (h : zH) : zx zblk xs 65 57 [some (.inr (.inr (some p))), some (.inl v1), some (.inl v2), some (.inl v3)] [.inr (.inl s2), .inl s1, .inr (.inr s0)] h = (zst h s0 101 s1 (.inr (.inl s2)) fun h1 => zx zblk xs 65 36 [some (.inr (.inr (some p))), some (.inl v1), some (.inl v2), some (.inl (v3 + 1))] [] h1) := (zx_unfold zblk xs 65 57 _ rfl _ _ _).trans rfl
theorem e_M_seen_64 (xs : List Int) (p : Nat) (v1 : Int) (v2 : Int) (h : zH) : zx zblk xs 65 64 [some (.inr (.inr (some p))), some (.inl v1), some (.inl v2)] [] h = zx zblk xs 65 69 [some (.inr (.inr (some p))), some (.inl v1), some (.inl v2), some (.inr (.inl 1)), none, some (.inl 0)] [] h := (zx_unfold zblk xs 65 64 _ rfl _ _ _).trans rfl
theorem e_M_seen_69 (xs : List Int) (p : Nat) (v1 : Int) (v2 : Int) (v3 : Int) (v5 : Int) (h : zH) : zx zblk xs 65 69 [some (.inr (.inr (some p))), some (.inl v1), some (.inl v2), some (.inr (.inl v3)), none, some (.inl v5)] [] h = (if zw v1 ≤ zw v5 then zx zblk xs 65 210 [some (.inr (.inr (some p))), none, some (.inl v2), some (.inr (.inl v3))] [] h else (zgi h (some p) 7 10 fun f1 => (zck h (some p) 7 (zci (zx zblk xs 44 0 [some (.inr (.inr (some p))), some (.inl f1)] [] h) fun r3 h2 => zx zblk xs 65 90 [some (.inr (.inr (some p))), some (.inl v1), some (.inl v2), some (.inr (.inl (v3 * (zw r3)))), none, some (.inl v5), some (.inl 0)] [] h2)))) := (zx_unfold zblk xs 65 69 _ rfl _ _ _).trans rfl
theorem e_M_seen_90 (xs : List Int) (p : Nat) (v1 : Int) (v2 : Int) (v3 : Int) (v5 : Int) (v6 : Int) (h : zH) : zx zblk xs 65 90 [some (.inr (.inr (some p))), some (.inl v1), some (.inl v2), some (.inr (.inl v3)), none, some (.inl v5), some (.inl v6)] [] h = (if zw 256 ≤ zw v6 then zx zblk xs 65 126 [some (.inr (.inr (some p))), some (.inl v1), some (.inl v2), some (.inr (.inl v3)), none, some (.inl v5)] [] h else (zgr h (some p) 7 21 fun f1 => (zgr h (some p) 7 20 fun f2 => (zal xs h f2 v6 fun a3 => (zst h f1 101 v6 (.inr (.inl a3)) fun h4 => (zgr h4 (some p) 7 20 fun f5 => (zst h4 f5 101 v6 (.inr (.inl 0)) fun h6 => zx zblk xs 65 90 [some (.inr (.inr (some p))), some (.inl v1), some (.inl v2), some (.inr (.inl v3)), none, some (.inl v5), some (.inl (v6 + 1))] [] h6))))))) := (zx_unfold zblk xs 65 90 _ rfl _ _ _).trans rfl
theorem e_M_seen_126 (xs : List Int) (p : Nat) (v1 : Int) (v2 : Int) (v3 : Int) (v5 : Int) (h : zH) : zx zblk xs 65 126 [some (.inr (.inr (some p))), some (.inl v1), some (.inl v2), some (.inr (.inl v3)), none, some (.inl v5)] [] h = zx zblk xs 65 129 [some (.inr (.inr (some p))), some (.inl v1), some (.inl v2), some (.inr (.inl v3)), none, some (.inl v5), some (.inl 0)] [] h := (zx_unfold zblk xs 65 126 _ rfl _ _ _).trans rfl
theorem e_M_seen_129 (xs : List Int) (p : Nat) (v1 : Int) (v2 : Int) (v3 : Int) (v5 : Int) (v6 : Int) (h : zH) : zx zblk xs 65 129 [some (.inr (.inr (some p))), some (.inl v1), some (.inl v2), some (.inr (.inl v3)), none, some (.inl v5), some (.inl v6)] [] h = (if zw 256 ≤ zw v6 then zx zblk xs 65 204 [some (.inr (.inr (some p))), some (.inl v1), some (.inl v2), some (.inr (.inl v3)), none, some (.inl v5)] [] h else zx zblk xs 65 140 [some (.inr (.inr (some p))), some (.inl v1), some (.inl v2), some (.inr (.inl v3)), none, some (.inl v5), some (.inl v6), some (.inl 0)] [] h) := (zx_unfold zblk xs 65 129 _ rfl _ _ _).trans rfl
theorem e_M_seen_140 (xs : List Int) (p : Nat) (v1 : Int) (v2 : Int) (v3 : Int) (v5 : Int) (v6 : Int) (v7 : Int) (h : zH) : zx zblk xs 65 140 [some (.inr (.inr (some p))), some (.inl v1), some (.inl v2), some (.inr (.inl v3)), none, some (.inl v5), some (.inl v6), some (.inl v7)] [] h = (zgi h (some p) 7 10 fun f1 => (if zw f1 ≤ zw v7 then zx zblk xs 65 198 [some (.inr (.inr (some p))), some (.inl v1), some (.inl v2), some (.inr (.inl v3)), none, some (.inl v5), some (.inl v6)] [] h else (zgr h (some p) 7 21 fun f2 => (zal xs h f2 v6 fun a3 => (if zw (if zwl a3 < zwl 0 then -1 else if zwl a3 = zwl 0 then 0 else 1) ≤ 0 then zx zblk xs 65 198 [some (.inr (.inr (some p))), some (.inl v1), some (.inl v2), some (.inr (.inl v3)), none, some (.inl v5), some (.inl v6)] [] h else (zgr h (some p) 7 20 fun f4 => (zal xs h f4 (zor v6 (zshl 1 v7)) fun a5 => (zgr h (some p) 7 21 fun f6 => (zal xs h f6 v6 fun a7 => (zgr h (some p) 7 11 fun f8 => (zai xs h f8 v7 fun a9 => (zst h f4 101 (zor v6 (zshl 1 v7)) (.inr (.inl (a5 + (a7 * (zw a9))))) fun h10 => zx zblk xs 65 140 [some (.inr (.inr (some p))), some (.inl v1), some (.inl v2), some (.inr (.inl v3)), none, some (.inl v5), some (.inl v6), some (.inl (v7 + 1))] [] h10)))))))))))) := (zx_unfold zblk xs 65 140 _ rfl _ _ _).trans rfl
theorem e_M_seen_198 (xs : List Int) (p : Nat) (v1 : Int) (v2 : Int) (v3 : Int) (v5 : Int) (v6 : Int) (h : zH) : zx zblk xs 65 198 [some (.inr (.inr (some p))), some (.inl v1), some (.inl v2), some (.inr (.inl v3)), none, some (.inl v5), some (.inl v6)] [] h = zx zblk xs 65 129 [some (.inr (.inr (some p))), some (.inl v1), some (.inl v2), some (.inr (.inl v3)), none, some (.inl v5), some (.inl (v6 + 1))] [] h := (zx_unfold zblk xs 65 198 _ rfl _ _ _).trans rfl
theorem e_M_seen_204 (xs : List Int) (p : Nat) (v1 : Int) (v2 : Int) (v3 : Int) (v5 : Int) (h : zH) : zx zblk xs 65 204 [some (.inr (.inr (some p))), some (.inl v1), some (.inl v2), some (.inr (.inl v3)), none, some (.inl v5)] [] h = zx zblk xs 65 69 [some (.inr (.inr (some p))), some (.inl v1), some (.inl v2), some (.inr (.inl v3)), none, some (.inl (v5 + 1))] [] h := (zx_unfold zblk xs 65 204 _ rfl _ _ _).trans rfl
theorem e_M_seen_210 (xs : List Int) (p : Nat) (v2 : Int) (v3 : Int) (h : zH) : zx zblk xs 65 210 [some (.inr (.inr (some p))), none, some (.inl v2), some (.inr (.inl v3))] [] h = (zgr h (some p) 7 20 fun f1 => (zgi h (some p) 7 10 fun f2 => (zal xs h f1 ((zshl 1 f2) - 1) fun a3 => (zcl (zx zblk xs 42 0 [some (.inr (.inl a3)), none, some (.inr (.inl v3)), none, some (.inl v2)] [] h) fun r5 h4 => some (some (.inr (.inl r5)), h4))))) := (zx_unfold zblk xs 65 210 _ rfl _ _ _).trans rfl
/-- MindReadersModel.isLike(III)Z -/
noncomputable abbrev r_M_isLike (xs : List Int) (p : Nat) (v1 : Int) (v2 : Int) (v3 : Int) (h : zH) : Option zR := zx zblk xs 66 0 [some (.inr (.inr (some p))), some (.inl v1), some (.inl v2), some (.inl v3)] [] h
theorem e_M_isLike_0 (xs : List Int) (p : Nat) (v1 : Int) (v2 : Int) (v3 : Int) (h : zH) : zx zblk xs 66 0 [some (.inr (.inr (some p))), some (.inl v1), some (.inl v2), some (.inl v3)] [] h = (zgr h (some p) 7 7 fun f1 => (zai xs h f1 ((48 * v1) + (6 * v3)) fun a2 => (zgr h (some p) 7 7 fun f3 => (zai xs h f3 ((48 * v2) + (6 * v3)) fun a4 => (if zw a2 ≠ zw a4 then zx zblk xs 66 43 [some (.inr (.inr (some p))), none, none, none, some (.inl ((48 * v1) + (6 * v3))), some (.inl ((48 * v2) + (6 * v3)))] [] h else zx zblk xs 66 44 [some (.inr (.inr (some p))), none, none, none, some (.inl ((48 * v1) + (6 * v3))), some (.inl ((48 * v2) + (6 * v3)))] [.inl 1] h))))) := (zx_unfold zblk xs 66 0 _ rfl _ _ _).trans rfl
theorem e_M_isLike_43 (xs : List Int) (p : Nat) (v4 : Int) (v5 : Int) (h : zH) : zx zblk xs 66 43 [some (.inr (.inr (some p))), none, none, none, some (.inl v4), some (.inl v5)] [] h = zx zblk xs 66 44 [some (.inr (.inr (some p))), none, none, none, some (.inl v4), some (.inl v5)] [.inl 0] h := (zx_unfold zblk xs 66 43 _ rfl _ _ _).trans rfl
theorem e_M_isLike_44 (xs : List Int) (p : Nat) (v4 : Int) (v5 : Int) (s0 : Int) (h : zH) : zx zblk xs 66 44 [some (.inr (.inr (some p))), none, none, none, some (.inl v4), some (.inl v5)] [.inl s0] h = zx zblk xs 66 49 [some (.inr (.inr (some p))), none, none, none, some (.inl v4), some (.inl v5), some (.inl s0), some (.inl 1)] [] h := (zx_unfold zblk xs 66 44 _ rfl _ _ _).trans rfl
theorem e_M_isLike_49 (xs : List Int) (p : Nat) (v4 : Int) (v5 : Int) (v6 : Int) (v7 : Int) (h : zH) : zx zblk xs 66 49 [some (.inr (.inr (some p))), none, none, none, some (.inl v4), some (.inl v5), some (.inl v6), some (.inl v7)] [] h = (zgr h (some p) 7 7 fun f1 => (zai xs h f1 v4 fun a2 => (if zw a2 < zw v7 then zx zblk xs 66 102 [none, none, none, none, none, none, some (.inl v6)] [] h else (if zw v6 = 0 then zx zblk xs 66 102 [none, none, none, none, none, none, some (.inl v6)] [] h else (zgr h (some p) 7 7 fun f3 => (zai xs h f3 (v4 + v7) fun a4 => (zgr h (some p) 7 7 fun f5 => (zai xs h f5 (v5 + v7) fun a6 => (if zw a4 ≠ zw a6 then zx zblk xs 66 93 [some (.inr (.inr (some p))), none, none, none, some (.inl v4), some (.inl v5), none, some (.inl v7)] [] h else zx zblk xs 66 94 [some (.inr (.inr (some p))), none, none, none, some (.inl v4), some (.inl v5), none, some (.inl v7)] [.inl 1] h))))))))) := (zx_unfold zblk xs 66 49 _ rfl _ _ _).trans rfl
theorem e_M_isLike_93 (xs : List Int) (p : Nat) (v4 : Int) (v5 : Int) (v7 : Int) (h : zH) : zx zblk xs 66 93 [some (.inr (.inr (some p))), none, none, none, some (.inl v4), some (.inl v5), none, some (.inl v7)] [] h = zx zblk xs 66 94 [some (.inr (.inr (some p))), none, none, none, some (.inl v4), some (.inl v5), none, some (.inl v7)] [.inl 0] h := (zx_unfold zblk xs 66 93 _ rfl _ _ _).trans rfl
theorem e_M_isLike_94 (xs : List Int) (p : Nat) (v4 : Int) (v5 : Int) (v7 : Int) (s0 : Int) (h : zH) : zx zblk xs 66 94 [some (.inr (.inr (some p))), none, none, none, some (.inl v4), some (.inl v5), none, some (.inl v7)] [.inl s0] h = zx zblk xs 66 49 [some (.inr (.inr (some p))), none, none, none, some (.inl v4), some (.inl v5), some (.inl s0), some (.inl (v7 + 1))] [] h := (zx_unfold zblk xs 66 94 _ rfl _ _ _).trans rfl
theorem e_M_isLike_102 (xs : List Int) (v6 : Int) (h : zH) : zx zblk xs 66 102 [none, none, none, none, none, none, some (.inl v6)] [] h = (if v6 = 0 ∨ v6 = 1 then some (some (.inl v6), h) else none) := (zx_unfold zblk xs 66 102 _ rfl _ _ _).trans rfl
/-- MindReadersModel.changeOf(II)I -/
noncomputable abbrev r_M_changeOf (xs : List Int) (p : Nat) (v1 : Int) (v2 : Int) (h : zH) : Option zR := zx zblk xs 67 0 [some (.inr (.inr (some p))), some (.inl v1), some (.inl v2)] [] h
theorem e_M_changeOf_0 (xs : List Int) (p : Nat) (v1 : Int) (v2 : Int) (h : zH) : zx zblk xs 67 0 [some (.inr (.inr (some p))), some (.inl v1), some (.inl v2)] [] h = zx zblk xs 67 5 [some (.inr (.inr (some p))), some (.inl v1), some (.inl v2), some (.inl 0), some (.inl 0)] [] h := (zx_unfold zblk xs 67 0 _ rfl _ _ _).trans rfl
theorem e_M_changeOf_5 (xs : List Int) (p : Nat) (v1 : Int) (v2 : Int) (v3 : Int) (v4 : Int) (h : zH) : zx zblk xs 67 5 [some (.inr (.inr (some p))), some (.inl v1), some (.inl v2), some (.inl v3), some (.inl v4)] [] h = (zgr h (some p) 7 6 fun f1 => (zai xs h f1 v2 fun a2 => (if zw a2 ≤ zw v4 then zx zblk xs 67 70 [none, none, none, some (.inl v3)] [] h else (zgr h (some p) 7 6 fun f3 => (zai xs h f3 v1 fun a4 => (if zw a4 ≤ zw v4 then zx zblk xs 67 42 [some (.inr (.inr (some p))), some (.inl v1), some (.inl v2), some (.inl v3), some (.inl v4)] [] h else (zck h (some p) 7 (zci (zx zblk xs 66 0 [some (.inr (.inr (some p))), some (.inl v1), some (.inl v2), some (.inl v4)] [] h) fun r6 h5 => (if zw r6 = 0 then zx zblk xs 67 42 [some (.inr (.inr (some p))), some (.inl v1), some (.inl v2), some (.inl v3), some (.inl v4)] [] h5 else zx zblk xs 67 43 [some (.inr (.inr (some p))), some (.inl v1), some (.inl v2), some (.inl v3), some (.inl v4)] [.inl 1] h5))))))))) := (zx_unfold zblk xs 67 5 _ rfl _ _ _).trans rfl
theorem e_M_changeOf_42 (xs : List Int) (p : Nat) (v1 : Int) (v2 : Int) (v3 : Int) (v4 : Int) (h : zH) : zx zblk xs 67 42 [some (.inr (.inr (some p))), some (.inl v1), some (.inl v2), some (.inl v3), some (.inl v4)] [] h = zx zblk xs 67 43 [some (.inr (.inr (some p))), some (.inl v1), some (.inl v2), some (.inl v3), some (.inl v4)] [.inl 0] h := (zx_unfold zblk xs 67 42 _ rfl _ _ _).trans rfl
theorem e_M_changeOf_43 (xs : List Int) (p : Nat) (v1 : Int) (v2 : Int) (v3 : Int) (v4 : Int) (s0 : Int) (h : zH) : zx zblk xs 67 43 [some (.inr (.inr (some p))), some (.inl v1), some (.inl v2), some (.inl v3), some (.inl v4)] [.inl s0] h = (if zw s0 = 0 then zx zblk xs 67 55 [some (.inr (.inr (some p))), some (.inl v1), some (.inl v2), none, some (.inl v4)] [.inl v3] h else zx zblk xs 67 62 [some (.inr (.inr (some p))), some (.inl v1), some (.inl v2), none, some (.inl v4)] [.inl 0, .inl v3] h) := (zx_unfold zblk xs 67 43 _ rfl _ _ _).trans rfl
theorem e_M_changeOf_55 (xs : List Int) (p : Nat) (v1 : Int) (v2 : Int) (v4 : Int) (s0 : Int) (h : zH) : zx zblk xs 67 55 [some (.inr (.inr (some p))), some (.inl v1), some (.inl v2), none, some (.inl v4)] [.inl s0] h = (zck h (some p) 7 (zci (zx zblk xs 23 0 [some (.inr (.inr (some p))), some (.inl v2), some (.inl v4)] [] h) fun r2 h1 => zx zblk xs 67 62 [some (.inr (.inr (some p))), some (.inl v1), some (.inl v2), none, some (.inl v4)] [.inl r2, .inl s0] h1)) := (zx_unfold zblk xs 67 55 _ rfl _ _ _).trans rfl
theorem e_M_changeOf_62 (xs : List Int) (p : Nat) (v1 : Int) (v2 : Int) (v4 : Int) (s0 : Int) (s1 : Int) (h : zH) : zx zblk xs 67 62 [some (.inr (.inr (some p))), some (.inl v1), some (.inl v2), none, some (.inl v4)] [.inl s1, .inl s0] h = zx zblk xs 67 5 [some (.inr (.inr (some p))), some (.inl v1), some (.inl v2), some (.inl (s0 + s1)), some (.inl (v4 + 1))] [] h := (zx_unfold zblk xs 67 62 _ rfl _ _ _).trans rfl
theorem e_M_changeOf_70 (xs : List Int) (v3 : Int) (h : zH) : zx zblk xs 67 70 [none, none, none, some (.inl v3)] [] h = some (some (.inl v3), h) := (zx_unfold zblk xs 67 70 _ rfl _ _ _).trans rfl
/-- MindReadersModel.change(II)I -/
noncomputable abbrev r_M_change (xs : List Int) (p : Nat) (v1 : Int) (v2 : Int) (h : zH) : Option zR := zx zblk xs 68 0 [some (.inr (.inr (some p))), some (.inl v1), some (.inl v2)] [] h
theorem e_M_change_0 (xs : List Int) (p : Nat) (v1 : Int) (v2 : Int) (h : zH) : zx zblk xs 68 0 [some (.inr (.inr (some p))), some (.inl v1), some (.inl v2)] [] h = (zck h (some p) 7 (zci (zx zblk xs 9 0 [some (.inr (.inr (some p))), some (.inl v1)] [] h) fun r2 h1 => (if zw r2 = 0 then zx zblk xs 68 25 [] [] h1 else (zck h1 (some p) 7 (zci (zx zblk xs 9 0 [some (.inr (.inr (some p))), some (.inl v2)] [] h1) fun r4 h3 => (if zw r4 = 0 then zx zblk xs 68 25 [] [] h3 else (zck h3 (some p) 7 (zci (zx zblk xs 67 0 [some (.inr (.inr (some p))), some (.inl v1), some (.inl v2)] [] h3) fun r6 h5 => zx zblk xs 68 27 [] [.inl r6] h5)))))))) := (zx_unfold zblk xs 68 0 _ rfl _ _ _).trans rfl
theorem e_M_change_25 (xs : List Int)  (h : zH) : zx zblk xs 68 25 [] [] h = zx zblk xs 68 27 [] [.inl (-101)] h := (zx_unfold zblk xs 68 25 _ rfl _ _ _).trans rfl
theorem e_M_change_27 (xs : List Int) (s0 : Int) (h : zH) : zx zblk xs 68 27 [] [.inl s0] h = some (some (.inl s0), h) := (zx_unfold zblk xs 68 27 _ rfl _ _ _).trans rfl
/-- MindReadersModel.cheapest(I)I -/
noncomputable abbrev r_M_cheapest (xs : List Int) (p : Nat) (v1 : Int) (h : zH) : Option zR := zx zblk xs 69 0 [some (.inr (.inr (some p))), some (.inl v1)] [] h
theorem e_M_cheapest_0 (xs : List Int) (p : Nat) (v1 : Int) (h : zH) : zx zblk xs 69 0 [some (.inr (.inr (some p))), some (.inl v1)] [] h = (zck h (some p) 7 (zci (zx zblk xs 9 0 [some (.inr (.inr (some p))), some (.inl v1)] [] h) fun r2 h1 => (if zw r2 ≠ 0 then zx zblk xs 69 11 [some (.inr (.inr (some p))), some (.inl v1)] [] h1 else some (some (.inl (-101)), h1)))) := (zx_unfold zblk xs 69 0 _ rfl _ _ _).trans rfl
theorem e_M_cheapest_11 (xs : List Int) (p : Nat) (v1 : Int) (h : zH) : zx zblk xs 69 11 [some (.inr (.inr (some p))), some (.inl v1)] [] h = zx zblk xs 69 18 [some (.inr (.inr (some p))), some (.inl v1), some (.inl (-1)), some (.inl 0), some (.inl 0)] [] h := (zx_unfold zblk xs 69 11 _ rfl _ _ _).trans rfl
theorem e_M_cheapest_18 (xs : List Int) (p : Nat) (v1 : Int) (v2 : Int) (v3 : Int) (v4 : Int) (h : zH) : zx zblk xs 69 18 [some (.inr (.inr (some p))), some (.inl v1), some (.inl v2), some (.inl v3), some (.inl v4)] [] h = (zgi h (some p) 7 5 fun f1 => (if zw f1 ≤ zw v4 then zx zblk xs 69 90 [none, none, some (.inl v2)] [] h else (zck h (some p) 7 (zci (zx zblk xs 67 0 [some (.inr (.inr (some p))), some (.inl v1), some (.inl v4)] [] h) fun r3 h2 => (if zw v4 = zw v1 then zx zblk xs 69 57 [some (.inr (.inr (some p))), some (.inl v1), some (.inl v2), some (.inl v3), some (.inl v4), some (.inl r3)] [] h2 else (if zw v2 = zw (-1) then zx zblk xs 69 53 [some (.inr (.inr (some p))), some (.inl v1), some (.inl v2), some (.inl v3), some (.inl v4), some (.inl r3)] [] h2 else (if zw v3 ≤ zw r3 then zx zblk xs 69 57 [some (.inr (.inr (some p))), some (.inl v1), some (.inl v2), some (.inl v3), some (.inl v4), some (.inl r3)] [] h2 else zx zblk xs 69 53 [some (.inr (.inr (some p))), some (.inl v1), some (.inl v2), some (.inl v3), some (.inl v4), some (.inl r3)] [] h2))))))) := (zx_unfold zblk xs 69 18 _ rfl _ _ _).trans rfl
theorem e_M_cheapest_53 (xs : List Int) (p : Nat) (v1 : Int) (v2 : Int) (v3 : Int) (v4 : Int) (v5 : Int) (h : zH) : zx zblk xs 69 53 [some (.inr (.inr (some p))), some (.inl v1), some (.inl v2), some (.inl v3), some (.inl v4), some (.inl v5)] [] h = zx zblk xs 69 58 [some (.inr (.inr (some p))), some (.inl v1), some (.inl v2), some (.inl v3), some (.inl v4), some (.inl v5)] [.inl 1] h := (zx_unfold zblk xs 69 53 _ rfl _ _ _).trans rfl
theorem e_M_cheapest_57 (xs : List Int) (p : Nat) (v1 : Int) (v2 : Int) (v3 : Int) (v4 : Int) (v5 : Int) (h : zH) : zx zblk xs 69 57 [some (.inr (.inr (some p))), some (.inl v1), some (.inl v2), some (.inl v3), some (.inl v4), some (.inl v5)] [] h = zx zblk xs 69 58 [some (.inr (.inr (some p))), some (.inl v1), some (.inl v2), some (.inl v3), some (.inl v4), some (.inl v5)] [.inl 0] h := (zx_unfold zblk xs 69 57 _ rfl _ _ _).trans rfl
theorem e_M_cheapest_58 (xs : List Int) (p : Nat) (v1 : Int) (v2 : Int) (v3 : Int) (v4 : Int) (v5 : Int) (s0 : Int) (h : zH) : zx zblk xs 69 58 [some (.inr (.inr (some p))), some (.inl v1), some (.inl v2), some (.inl v3), some (.inl v4), some (.inl v5)] [.inl s0] h = (if zw s0 = 0 then zx zblk xs 69 70 [some (.inr (.inr (some p))), some (.inl v1), some (.inl v2), some (.inl v3), some (.inl v4), some (.inl v5), some (.inl s0)] [] h else zx zblk xs 69 71 [some (.inr (.inr (some p))), some (.inl v1), none, some (.inl v3), some (.inl v4), some (.inl v5), some (.inl s0)] [.inl v4] h) := (zx_unfold zblk xs 69 58 _ rfl _ _ _).trans rfl
theorem e_M_cheapest_70 (xs : List Int) (p : Nat) (v1 : Int) (v2 : Int) (v3 : Int) (v4 : Int) (v5 : Int) (v6 : Int) (h : zH) : zx zblk xs 69 70 [some (.inr (.inr (some p))), some (.inl v1), some (.inl v2), some (.inl v3), some (.inl v4), some (.inl v5), some (.inl v6)] [] h = zx zblk xs 69 71 [some (.inr (.inr (some p))), some (.inl v1), none, some (.inl v3), some (.inl v4), some (.inl v5), some (.inl v6)] [.inl v2] h := (zx_unfold zblk xs 69 70 _ rfl _ _ _).trans rfl
theorem e_M_cheapest_71 (xs : List Int) (p : Nat) (v1 : Int) (v3 : Int) (v4 : Int) (v5 : Int) (v6 : Int) (s0 : Int) (h : zH) : zx zblk xs 69 71 [some (.inr (.inr (some p))), some (.inl v1), none, some (.inl v3), some (.inl v4), some (.inl v5), some (.inl v6)] [.inl s0] h = (if zw v6 = 0 then zx zblk xs 69 82 [some (.inr (.inr (some p))), some (.inl v1), some (.inl s0), some (.inl v3), some (.inl v4)] [] h else zx zblk xs 69 83 [some (.inr (.inr (some p))), some (.inl v1), some (.inl s0), none, some (.inl v4)] [.inl v5] h) := (zx_unfold zblk xs 69 71 _ rfl _ _ _).trans rfl
theorem e_M_cheapest_82 (xs : List Int) (p : Nat) (v1 : Int) (v2 : Int) (v3 : Int) (v4 : Int) (h : zH) : zx zblk xs 69 82 [some (.inr (.inr (some p))), some (.inl v1), some (.inl v2), some (.inl v3), some (.inl v4)] [] h = zx zblk xs 69 83 [some (.inr (.inr (some p))), some (.inl v1), some (.inl v2), none, some (.inl v4)] [.inl v3] h := (zx_unfold zblk xs 69 82 _ rfl _ _ _).trans rfl
theorem e_M_cheapest_83 (xs : List Int) (p : Nat) (v1 : Int) (v2 : Int) (v4 : Int) (s0 : Int) (h : zH) : zx zblk xs 69 83 [some (.inr (.inr (some p))), some (.inl v1), some (.inl v2), none, some (.inl v4)] [.inl s0] h = zx zblk xs 69 18 [some (.inr (.inr (some p))), some (.inl v1), some (.inl v2), some (.inl s0), some (.inl (v4 + 1))] [] h := (zx_unfold zblk xs 69 83 _ rfl _ _ _).trans rfl
theorem e_M_cheapest_90 (xs : List Int) (v2 : Int) (h : zH) : zx zblk xs 69 90 [none, none, some (.inl v2)] [] h = some (some (.inl v2), h) := (zx_unfold zblk xs 69 90 _ rfl _ _ _).trans rfl
/-- MindReadersModel.luck(IIII)J -/
noncomputable abbrev r_M_luck (xs : List Int) (p : Nat) (v1 : Int) (v2 : Int) (v3 : Int) (v4 : Int) (h : zH) : Option zR := zx zblk xs 70 0 [some (.inr (.inr (some p))), some (.inl v1), some (.inl v2), some (.inl v3), some (.inl v4)] [] h
theorem e_M_luck_0 (xs : List Int) (p : Nat) (v1 : Int) (v2 : Int) (v3 : Int) (v4 : Int) (h : zH) : zx zblk xs 70 0 [some (.inr (.inr (some p))), some (.inl v1), some (.inl v2), some (.inl v3), some (.inl v4)] [] h = (zci (zx zblk xs 2 0 [some (.inr (.inl (zw v1))), none, some (.inr (.inl 1)), none, some (.inr (.inl 12)), none] [] h) fun r2 h1 => (if zw r2 = 0 then zx zblk xs 70 45 [] [] h1 else (zci (zx zblk xs 2 0 [some (.inr (.inl (zw v2))), none, some (.inr (.inl 2)), none, some (.inr (.inl 9)), none] [] h1) fun r4 h3 => (if zw r4 = 0 then zx zblk xs 70 45 [] [] h3 else (zci (zx zblk xs 2 0 [some (.inr (.inl (zw v3))), none, some (.inr (.inl 0)), none, some (.inr (.inl (zw v1))), none] [] h3) fun r6 h5 => (if zw r6 = 0 then zx zblk xs 70 45 [] [] h5 else (zci (zx zblk xs 43 0 [some (.inl v4)] [] h5) fun r8 h7 => (if zw r8 ≠ 0 then zx zblk xs 70 49 [some (.inr (.inr (some p))), some (.inl v1), some (.inl v2), some (.inl v3), some (.inl v4)] [] h7 else zx zblk xs 70 45 [] [] h7)))))))) := (zx_unfold zblk xs 70 0 _ rfl _ _ _).trans rfl
theorem e_M_luck_45 (xs : List Int)  (h : zH) : zx zblk xs 70 45 [] [] h = some (some (.inr (.inl (-102))), h) := (zx_unfold zblk xs 70 45 _ rfl _ _ _).trans rfl
theorem e_M_luck_49 (xs : List Int) (p : Nat) (v1 : Int) (v2 : Int) (v3 : Int) (v4 : Int) (h : zH) : zx zblk xs 70 49 [some (.inr (.inr (some p))), some (.inl v1), some (.inl v2), some (.inl v3), some (.inl v4)] [] h = zx zblk xs 70 52 [some (.inr (.inr (some p))), some (.inl v1), some (.inl v2), some (.inl v3), some (.inl v4), some (.inl 0)] [] h := (zx_unfold zblk xs 70 49 _ rfl _ _ _).trans rfl
theorem e_M_luck_52 (xs : List Int) (p : Nat) (v1 : Int) (v2 : Int) (v3 : Int) (v4 : Int) (v5 : Int) (h : zH) : zx zblk xs 70 52 [some (.inr (.inr (some p))), some (.inl v1), some (.inl v2), some (.inl v3), some (.inl v4), some (.inl v5)] [] h = (if zw 13 ≤ zw v5 then zx zblk xs 70 82 [some (.inr (.inr (some p))), some (.inl v1), some (.inl v2), some (.inl v3), some (.inl v4)] [] h else (zgr h (some p) 7 20 fun f1 => (if zw v5 ≠ 0 then zx zblk xs 70 74 [some (.inr (.inr (some p))), some (.inl v1), some (.inl v2), some (.inl v3), some (.inl v4), some (.inl v5)] [.inl v5, .inr (.inr f1)] h else zx zblk xs 70 75 [some (.inr (.inr (some p))), some (.inl v1), some (.inl v2), some (.inl v3), some (.inl v4), some (.inl v5)] [.inr (.inl 1), .inl v5, .inr (.inr f1)] h))) := (zx_unfold zblk xs 70 52 _ rfl _ _ _).trans rfl
theorem e_M_luck_74 (xs : List Int) (p : Nat) (v1 : Int) (v2 : Int) (v3 : Int) (v4 : Int) (v5 : Int) (s0 : Option Nat) (s1 : Int) (h : zH) : zx zblk xs 70 74 [some (.inr (.inr (some p))), some (.inl v1), some (.inl v2), some (.inl v3), some (.inl v4), some (.inl v5)] [.inl s1, .inr (.inr s0)] h = zx zblk xs 70 75 [some (.inr (.inr (some p))), some (.inl v1), some (.inl v2), some (.inl v3), some (.inl v4), some (.inl v5)] [.inr (.inl 0), .inl s1, .inr (.inr s0)] h := (zx_unfold zblk xs 70 74 _ rfl _ _ _).trans rfl
theorem e_M_luck_75 (xs : List Int) (p : Nat) (v1 : Int) (v2 : Int) (v3 : Int) (v4 : Int) (v5 : Int) (s0 : Option Nat) (s1 : Int) (s2 : Int) (h : zH) : zx zblk xs 70 75 [some (.inr (.inr (some p))), some (.inl v1), some (.inl v2), some (.inl v3), some (.inl v4), some (.inl v5)] [.inr (.inl s2), .inl s1, .inr (.inr s0)] h = (zst h s0 101 s1 (.inr (.inl s2)) fun h1 => zx zblk xs 70 52 [some (.inr (.inr (some p))), some (.inl v1), some (.inl v2), some (.inl v3), some (.inl v4), some (.inl (v5 + 1))] [] h1) := (zx_unfold zblk xs 70 75 _ rfl _ _ _).trans rfl
theorem e_M_luck_82 (xs : List Int) (p : Nat) (v1 : Int) (v2 : Int) (v3 : Int) (v4 : Int) (h : zH) : zx zblk xs 70 82 [some (.inr (.inr (some p))), some (.inl v1), some (.inl v2), some (.inl v3), some (.inl v4)] [] h = zx zblk xs 70 88 [some (.inr (.inr (some p))), some (.inl v1), some (.inl v2), some (.inl v3), some (.inl v4), some (.inr (.inl 1)), none, some (.inl 0)] [] h := (zx_unfold zblk xs 70 82 _ rfl _ _ _).trans rfl
theorem e_M_luck_88 (xs : List Int) (p : Nat) (v1 : Int) (v2 : Int) (v3 : Int) (v4 : Int) (v5 : Int) (v7 : Int) (h : zH) : zx zblk xs 70 88 [some (.inr (.inr (some p))), some (.inl v1), some (.inl v2), some (.inl v3), some (.inl v4), some (.inr (.inl v5)), none, some (.inl v7)] [] h = (if zw v1 ≤ zw v7 then zx zblk xs 70 159 [some (.inr (.inr (some p))), some (.inl v1), none, some (.inl v3), some (.inl v4), some (.inr (.inl v5))] [] h else zx zblk xs 70 104 [some (.inr (.inr (some p))), some (.inl v1), some (.inl v2), some (.inl v3), some (.inl v4), some (.inr (.inl (v5 * (zw v2)))), none, some (.inl v7), some (.inl v1)] [] h) := (zx_unfold zblk xs 70 88 _ rfl _ _ _).trans rfl
theorem e_M_luck_104 (xs : List Int) (p : Nat) (v1 : Int) (v2 : Int) (v3 : Int) (v4 : Int) (v5 : Int) (v7 : Int) (v8 : Int) (h : zH) : zx zblk xs 70 104 [some (.inr (.inr (some p))), some (.inl v1), some (.inl v2), some (.inl v3), some (.inl v4), some (.inr (.inl v5)), none, some (.inl v7), some (.inl v8)] [] h = (if zw v8 < 0 then zx zblk xs 70 153 [some (.inr (.inr (some p))), some (.inl v1), some (.inl v2), some (.inl v3), some (.inl v4), some (.inr (.inl v5)), none, some (.inl v7)] [] h else (zgr h (some p) 7 20 fun f1 => (zgr h (some p) 7 20 fun f2 => (zal xs h f2 v8 fun a3 => (if zw v8 ≤ 0 then zx zblk xs 70 144 [some (.inr (.inr (some p))), some (.inl v1), some (.inl v2), some (.inl v3), some (.inl v4), some (.inr (.inl v5)), none, some (.inl v7), some (.inl v8)] [.inr (.inl (a3 * (zw (v2 - 1)))), .inl v8, .inr (.inr f1)] h else (zgr h (some p) 7 20 fun f4 => (zal xs h f4 (v8 - 1) fun a5 => zx zblk xs 70 145 [some (.inr (.inr (some p))), some (.inl v1), some (.inl v2), some (.inl v3), some (.inl v4), some (.inr (.inl v5)), none, some (.inl v7), some (.inl v8)] [.inr (.inl a5), .inr (.inl (a3 * (zw (v2 - 1)))), .inl v8, .inr (.inr f1)] h))))))) := (zx_unfold zblk xs 70 104 _ rfl _ _ _).trans rfl
theorem e_M_luck_144 (xs : List Int) (p : Nat) (v1 : Int) (v2 : Int) (v3 : Int) (v4 : Int) (v5 : Int) (v7 : Int) (v8 : Int) (s0 : Option Nat) (s1 : Int) (s2 : Int) (h : zH) : zx zblk xs 70 144 [some (.inr (.inr (some p))), some (.inl v1), some (.inl v2), some (.inl v3), some (.inl v4), some (.inr (.inl v5)), none, some (.inl v7), some (.inl v8)] [.inr (.inl s2), .inl s1, .inr (.inr s0)] h = zx zblk xs 70 145 [some (.inr (.inr (some p))), some (.inl v1), some (.inl v2), some (.inl v3), some (.inl v4), some (.inr (.inl v5)), none, some (.inl v7), some (.inl v8)] [.inr (.inl 0), .inr (.inl s2), .inl s1, .inr (.inr s0)] h := (zx_unfold zblk xs 70 144 _ rfl _ _ _).trans rfl
theorem e_M_luck_145 (xs : List Int) (p : Nat) (v1 : Int) (v2 : Int) (v3 : Int) (v4 : Int) (v5 : Int) (v7 : Int) (v8 : Int) (s0 : Option Nat) (s1 : Int) (s2 : Int) (s3 : Int) (h : zH) : zx zblk xs 70 145 [some (.inr (.inr (some p))), some (.inl v1), some (.inl v2), some (.inl v3), some (.inl v4), some (.inr (.inl v5)), none, some (.inl v7), some (.inl v8)] [.inr (.inl s3), .inr (.inl s2), .inl s1, .inr (.inr s0)] h = (zst h s0 101 s1 (.inr (.inl (s2 + s3))) fun h1 => zx zblk xs 70 104 [some (.inr (.inr (some p))), some (.inl v1), some (.inl v2), some (.inl v3), some (.inl v4), some (.inr (.inl v5)), none, some (.inl v7), some (.inl (v8 + (-1)))] [] h1) := (zx_unfold zblk xs 70 145 _ rfl _ _ _).trans rfl
theorem e_M_luck_153 (xs : List Int) (p : Nat) (v1 : Int) (v2 : Int) (v3 : Int) (v4 : Int) (v5 : Int) (v7 : Int) (h : zH) : zx zblk xs 70 153 [some (.inr (.inr (some p))), some (.inl v1), some (.inl v2), some (.inl v3), some (.inl v4), some (.inr (.inl v5)), none, some (.inl v7)] [] h = zx zblk xs 70 88 [some (.inr (.inr (some p))), some (.inl v1), some (.inl v2), some (.inl v3), some (.inl v4), some (.inr (.inl v5)), none, some (.inl (v7 + 1))] [] h := (zx_unfold zblk xs 70 153 _ rfl _ _ _).trans rfl
theorem e_M_luck_159 (xs : List Int) (p : Nat) (v1 : Int) (v3 : Int) (v4 : Int) (v5 : Int) (h : zH) : zx zblk xs 70 159 [some (.inr (.inr (some p))), some (.inl v1), none, some (.inl v3), some (.inl v4), some (.inr (.inl v5))] [] h = zx zblk xs 70 165 [some (.inr (.inr (some p))), some (.inl v1), none, none, some (.inl v4), some (.inr (.inl v5)), none, some (.inr (.inl 0)), none, some (.inl v3)] [] h := (zx_unfold zblk xs 70 159 _ rfl _ _ _).trans rfl
theorem e_M_luck_165 (xs : List Int) (p : Nat) (v1 : Int) (v4 : Int) (v5 : Int) (v7 : Int) (v9 : Int) (h : zH) : zx zblk xs 70 165 [some (.inr (.inr (some p))), some (.inl v1), none, none, some (.inl v4), some (.inr (.inl v5)), none, some (.inr (.inl v7)), none, some (.inl v9)] [] h = (if zw v1 < zw v9 then zx zblk xs 70 189 [none, none, none, none, some (.inl v4), some (.inr (.inl v5)), none, some (.inr (.inl v7))] [] h else (zgr h (some p) 7 20 fun f1 => (zal xs h f1 v9 fun a2 => zx zblk xs 70 165 [some (.inr (.inr (some p))), some (.inl v1), none, none, some (.inl v4), some (.inr (.inl v5)), none, some (.inr (.inl (v7 + a2))), none, some (.inl (v9 + 1))] [] h))) := (zx_unfold zblk xs 70 165 _ rfl _ _ _).trans rfl
theorem e_M_luck_189 (xs : List Int) (v4 : Int) (v5 : Int) (v7 : Int) (h : zH) : zx zblk xs 70 189 [none, none, none, none, some (.inl v4), some (.inr (.inl v5)), none, some (.inr (.inl v7))] [] h = (zcl (zx zblk xs 42 0 [some (.inr (.inl v7)), none, some (.inr (.inl v5)), none, some (.inl v4)] [] h) fun r2 h1 => some (some (.inr (.inl r2)), h1)) := (zx_unfold zblk xs 70 189 _ rfl _ _ _).trans rfl
/-- MindReadersModel.leftOf(II)I -/
noncomputable abbrev r_M_leftOf (xs : List Int) (p : Nat) (v1 : Int) (v2 : Int) (h : zH) : Option zR := zx zblk xs 71 0 [some (.inr (.inr (some p))), some (.inl v1), some (.inl v2)] [] h
theorem e_M_leftOf_0 (xs : List Int) (p : Nat) (v1 : Int) (v2 : Int) (h : zH) : zx zblk xs 71 0 [some (.inr (.inr (some p))), some (.inl v1), some (.inl v2)] [] h = (zck h (some p) 7 (zcv (zx zblk xs 22 0 [some (.inr (.inr (some p))), some (.inl v1), some (.inl v2)] [] h) fun h1 => zx zblk xs 71 11 [some (.inr (.inr (some p))), some (.inl v1), none, some (.inl 0), some (.inl 0)] [] h1)) := (zx_unfold zblk xs 71 0 _ rfl _ _ _).trans rfl
theorem e_M_leftOf_11 (xs : List Int) (p : Nat) (v1 : Int) (v3 : Int) (v4 : Int) (h : zH) : zx zblk xs 71 11 [some (.inr (.inr (some p))), some (.inl v1), none, some (.inl v3), some (.inl v4)] [] h = (zgr h (some p) 7 6 fun f1 => (zai xs h f1 v1 fun a2 => (if zw a2 ≤ zw v4 then zx zblk xs 71 83 [none, none, none, some (.inl v3)] [] h else zx zblk xs 71 28 [some (.inr (.inr (some p))), some (.inl v1), none, some (.inl v3), some (.inl v4), some (.inl 1), some (.inl 0)] [] h))) := (zx_unfold zblk xs 71 11 _ rfl _ _ _).trans rfl
theorem e_M_leftOf_28 (xs : List Int) (p : Nat) (v1 : Int) (v3 : Int) (v4 : Int) (v5 : Int) (v6 : Int) (h : zH) : zx zblk xs 71 28 [some (.inr (.inr (some p))), some (.inl v1), none, some (.inl v3), some (.inl v4), some (.inl v5), some (.inl v6)] [] h = (if zw v4 ≤ zw v6 then zx zblk xs 71 64 [some (.inr (.inr (some p))), some (.inl v1), none, some (.inl v3), some (.inl v4), some (.inl v5)] [] h else (if zw v5 = 0 then zx zblk xs 71 55 [some (.inr (.inr (some p))), some (.inl v1), none, some (.inl v3), some (.inl v4), none, some (.inl v6)] [] h else (zck h (some p) 7 (zci (zx zblk xs 27 0 [some (.inr (.inr (some p))), some (.inl v4), some (.inl v6)] [] h) fun r2 h1 => (if zw r2 ≠ 0 then zx zblk xs 71 55 [some (.inr (.inr (some p))), some (.inl v1), none, some (.inl v3), some (.inl v4), none, some (.inl v6)] [] h1 else zx zblk xs 71 56 [some (.inr (.inr (some p))), some (.inl v1), none, some (.inl v3), some (.inl v4), none, some (.inl v6)] [.inl 1] h1))))) := (zx_unfold zblk xs 71 28 _ rfl _ _ _).trans rfl
theorem e_M_leftOf_55 (xs : List Int) (p : Nat) (v1 : Int) (v3 : Int) (v4 : Int) (v6 : Int) (h : zH) : zx zblk xs 71 55 [some (.inr (.inr (some p))), some (.inl v1), none, some (.inl v3), some (.inl v4), none, some (.inl v6)] [] h = zx zblk xs 71 56 [some (.inr (.inr (some p))), some (.inl v1), none, some (.inl v3), some (.inl v4), none, some (.inl v6)] [.inl 0] h := (zx_unfold zblk xs 71 55 _ rfl _ _ _).trans rfl
theorem e_M_leftOf_56 (xs : List Int) (p : Nat) (v1 : Int) (v3 : Int) (v4 : Int) (v6 : Int) (s0 : Int) (h : zH) : zx zblk xs 71 56 [some (.inr (.inr (some p))), some (.inl v1), none, some (.inl v3), some (.inl v4), none, some (.inl v6)] [.inl s0] h = zx zblk xs 71 28 [some (.inr (.inr (some p))), some (.inl v1), none, some (.inl v3), some (.inl v4), some (.inl s0), some (.inl (v6 + 1))] [] h := (zx_unfold zblk xs 71 56 _ rfl _ _ _).trans rfl
theorem e_M_leftOf_64 (xs : List Int) (p : Nat) (v1 : Int) (v3 : Int) (v4 : Int) (v5 : Int) (h : zH) : zx zblk xs 71 64 [some (.inr (.inr (some p))), some (.inl v1), none, some (.inl v3), some (.inl v4), some (.inl v5)] [] h = (if zw v5 = 0 then zx zblk xs 71 74 [some (.inr (.inr (some p))), some (.inl v1), none, none, some (.inl v4)] [.inl v3] h else zx zblk xs 71 75 [some (.inr (.inr (some p))), some (.inl v1), none, none, some (.inl v4)] [.inl 1, .inl v3] h) := (zx_unfold zblk xs 71 64 _ rfl _ _ _).trans rfl
theorem e_M_leftOf_74 (xs : List Int) (p : Nat) (v1 : Int) (v4 : Int) (s0 : Int) (h : zH) : zx zblk xs 71 74 [some (.inr (.inr (some p))), some (.inl v1), none, none, some (.inl v4)] [.inl s0] h = zx zblk xs 71 75 [some (.inr (.inr (some p))), some (.inl v1), none, none, some (.inl v4)] [.inl 0, .inl s0] h := (zx_unfold zblk xs 71 74 _ rfl _ _ _).trans rfl
theorem e_M_leftOf_75 (xs : List Int) (p : Nat) (v1 : Int) (v4 : Int) (s0 : Int) (s1 : Int) (h : zH) : zx zblk xs 71 75 [some (.inr (.inr (some p))), some (.inl v1), none, none, some (.inl v4)] [.inl s1, .inl s0] h = zx zblk xs 71 11 [some (.inr (.inr (some p))), some (.inl v1), none, some (.inl (s0 + s1)), some (.inl (v4 + 1))] [] h := (zx_unfold zblk xs 71 75 _ rfl _ _ _).trans rfl
theorem e_M_leftOf_83 (xs : List Int) (v3 : Int) (h : zH) : zx zblk xs 71 83 [none, none, none, some (.inl v3)] [] h = some (some (.inl v3), h) := (zx_unfold zblk xs 71 83 _ rfl _ _ _).trans rfl
/-- MindReadersModel.left(II)I -/
noncomputable abbrev r_M_left (xs : List Int) (p : Nat) (v1 : Int) (v2 : Int) (h : zH) : Option zR := zx zblk xs 72 0 [some (.inr (.inr (some p))), some (.inl v1), some (.inl v2)] [] h
theorem e_M_left_0 (xs : List Int) (p : Nat) (v1 : Int) (v2 : Int) (h : zH) : zx zblk xs 72 0 [some (.inr (.inr (some p))), some (.inl v1), some (.inl v2)] [] h = (zck h (some p) 7 (zci (zx zblk xs 9 0 [some (.inr (.inr (some p))), some (.inl v1)] [] h) fun r2 h1 => (if zw r2 ≠ 0 then zx zblk xs 72 11 [some (.inr (.inr (some p))), some (.inl v1), some (.inl v2)] [] h1 else some (some (.inl (-101)), h1)))) := (zx_unfold zblk xs 72 0 _ rfl _ _ _).trans rfl
theorem e_M_left_11 (xs : List Int) (p : Nat) (v1 : Int) (v2 : Int) (h : zH) : zx zblk xs 72 11 [some (.inr (.inr (some p))), some (.inl v1), some (.inl v2)] [] h = (zci (zx zblk xs 2 0 [some (.inr (.inl (zw v2))), none, some (.inr (.inl 0)), none, some (.inr (.inl 255)), none] [] h) fun r2 h1 => (if zw r2 = 0 then zx zblk xs 72 32 [] [] h1 else (zck h1 (some p) 7 (zci (zx zblk xs 71 0 [some (.inr (.inr (some p))), some (.inl v1), some (.inl v2)] [] h1) fun r4 h3 => zx zblk xs 72 34 [] [.inl r4] h3)))) := (zx_unfold zblk xs 72 11 _ rfl _ _ _).trans rfl
theorem e_M_left_32 (xs : List Int)  (h : zH) : zx zblk xs 72 32 [] [] h = zx zblk xs 72 34 [] [.inl (-102)] h := (zx_unfold zblk xs 72 32 _ rfl _ _ _).trans rfl
theorem e_M_left_34 (xs : List Int) (s0 : Int) (h : zH) : zx zblk xs 72 34 [] [.inl s0] h = some (some (.inl s0), h) := (zx_unfold zblk xs 72 34 _ rfl _ _ _).trans rfl
/-- MindReadersModel.stopOf(I)I -/
noncomputable abbrev r_M_stopOf (xs : List Int) (p : Nat) (v1 : Int) (h : zH) : Option zR := zx zblk xs 73 0 [some (.inr (.inr (some p))), some (.inl v1)] [] h
theorem e_M_stopOf_0 (xs : List Int) (p : Nat) (v1 : Int) (h : zH) : zx zblk xs 73 0 [some (.inr (.inr (some p))), some (.inl v1)] [] h = zx zblk xs 73 10 [some (.inr (.inr (some p))), some (.inl v1), some (.inl 255), some (.inl 8), some (.inl 0)] [] h := (zx_unfold zblk xs 73 0 _ rfl _ _ _).trans rfl
theorem e_M_stopOf_10 (xs : List Int) (p : Nat) (v1 : Int) (v2 : Int) (v3 : Int) (v4 : Int) (h : zH) : zx zblk xs 73 10 [some (.inr (.inr (some p))), some (.inl v1), some (.inl v2), some (.inl v3), some (.inl v4)] [] h = (if zw 256 ≤ zw v4 then zx zblk xs 73 78 [none, none, some (.inl v2)] [] h else zx zblk xs 73 24 [some (.inr (.inr (some p))), some (.inl v1), some (.inl v2), some (.inl v3), some (.inl v4), some (.inl 0), some (.inl 0)] [] h) := (zx_unfold zblk xs 73 10 _ rfl _ _ _).trans rfl
theorem e_M_stopOf_24 (xs : List Int) (p : Nat) (v1 : Int) (v2 : Int) (v3 : Int) (v4 : Int) (v5 : Int) (v6 : Int) (h : zH) : zx zblk xs 73 24 [some (.inr (.inr (some p))), some (.inl v1), some (.inl v2), some (.inl v3), some (.inl v4), some (.inl v5), some (.inl v6)] [] h = (if zw 8 ≤ zw v6 then zx zblk xs 73 49 [some (.inr (.inr (some p))), some (.inl v1), some (.inl v2), some (.inl v3), some (.inl v4), some (.inl v5)] [] h else zx zblk xs 73 24 [some (.inr (.inr (some p))), some (.inl v1), some (.inl v2), some (.inl v3), some (.inl v4), some (.inl (v5 + (zand (zshr v4 v6) 1))), some (.inl (v6 + 1))] [] h) := (zx_unfold zblk xs 73 24 _ rfl _ _ _).trans rfl
theorem e_M_stopOf_49 (xs : List Int) (p : Nat) (v1 : Int) (v2 : Int) (v3 : Int) (v4 : Int) (v5 : Int) (h : zH) : zx zblk xs 73 49 [some (.inr (.inr (some p))), some (.inl v1), some (.inl v2), some (.inl v3), some (.inl v4), some (.inl v5)] [] h = (if zw v3 ≤ zw v5 then zx zblk xs 73 72 [some (.inr (.inr (some p))), some (.inl v1), some (.inl v2), some (.inl v3), some (.inl v4)] [] h else (zck h (some p) 7 (zci (zx zblk xs 71 0 [some (.inr (.inr (some p))), some (.inl v1), some (.inl v4)] [] h) fun r2 h1 => (if zw 2 ≤ zw r2 then zx zblk xs 73 72 [some (.inr (.inr (some p))), some (.inl v1), some (.inl v2), some (.inl v3), some (.inl v4)] [] h1 else zx zblk xs 73 72 [some (.inr (.inr (some p))), some (.inl v1), some (.inl v4), some (.inl v5), some (.inl v4)] [] h1)))) := (zx_unfold zblk xs 73 49 _ rfl _ _ _).trans rfl
theorem e_M_stopOf_72 (xs : List Int) (p : Nat) (v1 : Int) (v2 : Int) (v3 : Int) (v4 : Int) (h : zH) : zx zblk xs 73 72 [some (.inr (.inr (some p))), some (.inl v1), some (.inl v2), some (.inl v3), some (.inl v4)] [] h = zx zblk xs 73 10 [some (.inr (.inr (some p))), some (.inl v1), some (.inl v2), some (.inl v3), some (.inl (v4 + 1))] [] h := (zx_unfold zblk xs 73 72 _ rfl _ _ _).trans rfl
theorem e_M_stopOf_78 (xs : List Int) (v2 : Int) (h : zH) : zx zblk xs 73 78 [none, none, some (.inl v2)] [] h = some (some (.inl v2), h) := (zx_unfold zblk xs 73 78 _ rfl _ _ _).trans rfl
/-- MindReadersModel.stop(I)I -/
noncomputable abbrev r_M_stop (xs : List Int) (p : Nat) (v1 : Int) (h : zH) : Option zR := zx zblk xs 74 0 [some (.inr (.inr (some p))), some (.inl v1)] [] h
theorem e_M_stop_0 (xs : List Int) (p : Nat) (v1 : Int) (h : zH) : zx zblk xs 74 0 [some (.inr (.inr (some p))), some (.inl v1)] [] h = (zck h (some p) 7 (zci (zx zblk xs 9 0 [some (.inr (.inr (some p))), some (.inl v1)] [] h) fun r2 h1 => (if zw r2 = 0 then zx zblk xs 74 16 [] [] h1 else (zck h1 (some p) 7 (zci (zx zblk xs 73 0 [some (.inr (.inr (some p))), some (.inl v1)] [] h1) fun r4 h3 => zx zblk xs 74 18 [] [.inl r4] h3))))) := (zx_unfold zblk xs 74 0 _ rfl _ _ _).trans rfl
theorem e_M_stop_16 (xs : List Int)  (h : zH) : zx zblk xs 74 16 [] [] h = zx zblk xs 74 18 [] [.inl (-101)] h := (zx_unfold zblk xs 74 16 _ rfl _ _ _).trans rfl
theorem e_M_stop_18 (xs : List Int) (s0 : Int) (h : zH) : zx zblk xs 74 18 [] [.inl s0] h = some (some (.inl s0), h) := (zx_unfold zblk xs 74 18 _ rfl _ _ _).trans rfl
/-- MindReadersModel.image()I -/
noncomputable abbrev r_M_image (xs : List Int) (p : Nat) (h : zH) : Option zR := zx zblk xs 75 0 [some (.inr (.inr (some p)))] [] h
theorem e_M_image_0 (xs : List Int) (p : Nat) (h : zH) : zx zblk xs 75 0 [some (.inr (.inr (some p)))] [] h = zx zblk xs 75 2 [some (.inr (.inr (some p))), some (.inl 0)] [] h := (zx_unfold zblk xs 75 0 _ rfl _ _ _).trans rfl
theorem e_M_image_2 (xs : List Int) (p : Nat) (v1 : Int) (h : zH) : zx zblk xs 75 2 [some (.inr (.inr (some p))), some (.inl v1)] [] h = (if zw 8 ≤ zw v1 then zx zblk xs 75 26 [some (.inr (.inr (some p)))] [] h else (zgr h (some p) 7 24 fun f1 => (zgr h (some p) 7 11 fun f2 => (zai xs h f2 v1 fun a3 => (zst h f1 100 v1 (.inl a3) fun h4 => zx zblk xs 75 2 [some (.inr (.inr (some p))), some (.inl (v1 + 1))] [] h4))))) := (zx_unfold zblk xs 75 2 _ rfl _ _ _).trans rfl
theorem e_M_image_26 (xs : List Int) (p : Nat) (h : zH) : zx zblk xs 75 26 [some (.inr (.inr (some p)))] [] h = zx zblk xs 75 28 [some (.inr (.inr (some p))), some (.inl 0)] [] h := (zx_unfold zblk xs 75 26 _ rfl _ _ _).trans rfl
theorem e_M_image_28 (xs : List Int) (p : Nat) (v1 : Int) (h : zH) : zx zblk xs 75 28 [some (.inr (.inr (some p))), some (.inl v1)] [] h = (if zw 100 ≤ zw v1 then zx zblk xs 75 52 [some (.inr (.inr (some p)))] [] h else (zgr h (some p) 7 25 fun f1 => (zgr h (some p) 7 19 fun f2 => (zai xs h f2 v1 fun a3 => (zst h f1 100 v1 (.inl a3) fun h4 => zx zblk xs 75 28 [some (.inr (.inr (some p))), some (.inl (v1 + 1))] [] h4))))) := (zx_unfold zblk xs 75 28 _ rfl _ _ _).trans rfl
theorem e_M_image_52 (xs : List Int) (p : Nat) (h : zH) : zx zblk xs 75 52 [some (.inr (.inr (some p)))] [] h = (zgi h (some p) 7 18 fun f1 => (zpf h (some p) 7 23 (.inl f1) fun h2 => (zgi h2 (some p) 7 10 fun f3 => (zpf h2 (some p) 7 22 (.inl f3) fun h4 => (zgi h4 (some p) 7 10 fun f5 => some (some (.inl f5), h4)))))) := (zx_unfold zblk xs 75 52 _ rfl _ _ _).trans rfl
/-- MindReadersModel.restore()I -/
noncomputable abbrev r_M_restore (xs : List Int) (p : Nat) (h : zH) : Option zR := zx zblk xs 76 0 [some (.inr (.inr (some p)))] [] h
theorem e_M_restore_0 (xs : List Int) (p : Nat) (h : zH) : zx zblk xs 76 0 [some (.inr (.inr (some p)))] [] h = (zgi h (some p) 7 22 fun f1 => (if zw f1 ≠ zw (-1) then zx zblk xs 76 11 [some (.inr (.inr (some p)))] [] h else some (some (.inl (-103)), h))) := (zx_unfold zblk xs 76 0 _ rfl _ _ _).trans rfl
theorem e_M_restore_11 (xs : List Int) (p : Nat) (h : zH) : zx zblk xs 76 11 [some (.inr (.inr (some p)))] [] h = zx zblk xs 76 13 [some (.inr (.inr (some p))), some (.inl 0)] [] h := (zx_unfold zblk xs 76 11 _ rfl _ _ _).trans rfl
theorem e_M_restore_13 (xs : List Int) (p : Nat) (v1 : Int) (h : zH) : zx zblk xs 76 13 [some (.inr (.inr (some p))), some (.inl v1)] [] h = (zgi h (some p) 7 22 fun f1 => (if zw f1 ≤ zw v1 then zx zblk xs 76 39 [some (.inr (.inr (some p)))] [] h else (zgr h (some p) 7 11 fun f2 => (zgr h (some p) 7 24 fun f3 => (zai xs h f3 v1 fun a4 => (zst h f2 100 v1 (.inl a4) fun h5 => zx zblk xs 76 13 [some (.inr (.inr (some p))), some (.inl (v1 + 1))] [] h5)))))) := (zx_unfold zblk xs 76 13 _ rfl _ _ _).trans rfl
theorem e_M_restore_39 (xs : List Int) (p : Nat) (h : zH) : zx zblk xs 76 39 [some (.inr (.inr (some p)))] [] h = zx zblk xs 76 41 [some (.inr (.inr (some p))), some (.inl 0)] [] h := (zx_unfold zblk xs 76 39 _ rfl _ _ _).trans rfl
theorem e_M_restore_41 (xs : List Int) (p : Nat) (v1 : Int) (h : zH) : zx zblk xs 76 41 [some (.inr (.inr (some p))), some (.inl v1)] [] h = (if zw 100 ≤ zw v1 then zx zblk xs 76 65 [some (.inr (.inr (some p)))] [] h else (zgr h (some p) 7 19 fun f1 => (zgr h (some p) 7 25 fun f2 => (zai xs h f2 v1 fun a3 => (zst h f1 100 v1 (.inl a3) fun h4 => zx zblk xs 76 41 [some (.inr (.inr (some p))), some (.inl (v1 + 1))] [] h4))))) := (zx_unfold zblk xs 76 41 _ rfl _ _ _).trans rfl
theorem e_M_restore_65 (xs : List Int) (p : Nat) (h : zH) : zx zblk xs 76 65 [some (.inr (.inr (some p)))] [] h = (zgi h (some p) 7 23 fun f1 => (zpf h (some p) 7 18 (.inl f1) fun h2 => (zgi h2 (some p) 7 10 fun f3 => some (some (.inl f3), h2)))) := (zx_unfold zblk xs 76 65 _ rfl _ _ _).trans rfl
/-- MindReadersModel.countOf(I)I -/
noncomputable abbrev r_M_countOf (xs : List Int) (p : Nat) (v1 : Int) (h : zH) : Option zR := zx zblk xs 77 0 [some (.inr (.inr (some p))), some (.inl v1)] [] h
theorem e_M_countOf_0 (xs : List Int) (p : Nat) (v1 : Int) (h : zH) : zx zblk xs 77 0 [some (.inr (.inr (some p))), some (.inl v1)] [] h = (if zw v1 < 0 ∨ 5 < zw v1 then zx zblk xs 77 74 [some (.inr (.inr (some p)))] [] h else zsel ([40, 45, 50, 55, 60, 65][(zw v1 - 0).toNat]?) fun t => zx zblk xs 77 t [some (.inr (.inr (some p)))] [] h) := (zx_unfold zblk xs 77 0 _ rfl _ _ _).trans rfl
theorem e_M_countOf_40 (xs : List Int) (p : Nat) (h : zH) : zx zblk xs 77 40 [some (.inr (.inr (some p)))] [] h = (zgi h (some p) 7 8 fun f1 => some (some (.inl f1), h)) := (zx_unfold zblk xs 77 40 _ rfl _ _ _).trans rfl
theorem e_M_countOf_45 (xs : List Int) (p : Nat) (h : zH) : zx zblk xs 77 45 [some (.inr (.inr (some p)))] [] h = (zgi h (some p) 7 10 fun f1 => some (some (.inl f1), h)) := (zx_unfold zblk xs 77 45 _ rfl _ _ _).trans rfl
theorem e_M_countOf_50 (xs : List Int) (p : Nat) (h : zH) : zx zblk xs 77 50 [some (.inr (.inr (some p)))] [] h = (zgi h (some p) 7 5 fun f1 => some (some (.inl f1), h)) := (zx_unfold zblk xs 77 50 _ rfl _ _ _).trans rfl
theorem e_M_countOf_55 (xs : List Int) (p : Nat) (h : zH) : zx zblk xs 77 55 [some (.inr (.inr (some p)))] [] h = (zgi h (some p) 7 18 fun f1 => some (some (.inl f1), h)) := (zx_unfold zblk xs 77 55 _ rfl _ _ _).trans rfl
theorem e_M_countOf_60 (xs : List Int) (p : Nat) (h : zH) : zx zblk xs 77 60 [some (.inr (.inr (some p)))] [] h = (zgi h (some p) 7 1 fun f1 => some (some (.inl f1), h)) := (zx_unfold zblk xs 77 60 _ rfl _ _ _).trans rfl
theorem e_M_countOf_65 (xs : List Int) (p : Nat) (h : zH) : zx zblk xs 77 65 [some (.inr (.inr (some p)))] [] h = (zgi h (some p) 7 10 fun f1 => (zck h (some p) 7 (zci (zx zblk xs 44 0 [some (.inr (.inr (some p))), some (.inl f1)] [] h) fun r3 h2 => some (some (.inl r3), h2)))) := (zx_unfold zblk xs 77 65 _ rfl _ _ _).trans rfl
theorem e_M_countOf_74 (xs : List Int) (p : Nat) (h : zH) : zx zblk xs 77 74 [some (.inr (.inr (some p)))] [] h = some (some (.inl (-102)), h) := (zx_unfold zblk xs 77 74 _ rfl _ _ _).trans rfl
/-- MindReadersModel.count(I)I -/
noncomputable abbrev r_M_count (xs : List Int) (p : Nat) (v1 : Int) (h : zH) : Option zR := zx zblk xs 78 0 [some (.inr (.inr (some p))), some (.inl v1)] [] h
theorem e_M_count_0 (xs : List Int) (p : Nat) (v1 : Int) (h : zH) : zx zblk xs 78 0 [some (.inr (.inr (some p))), some (.inl v1)] [] h = (zck h (some p) 7 (zci (zx zblk xs 77 0 [some (.inr (.inr (some p))), some (.inl v1)] [] h) fun r2 h1 => some (some (.inl r2), h1))) := (zx_unfold zblk xs 78 0 _ rfl _ _ _).trans rfl
/-- MindReadersModel.say(J)V -/
noncomputable abbrev r_M_say (xs : List Int) (p : Nat) (v1 : Int) (h : zH) : Option zR := zx zblk xs 79 0 [some (.inr (.inr (some p))), some (.inr (.inl v1)), none] [] h
theorem e_M_say_0 (xs : List Int) (p : Nat) (v1 : Int) (h : zH) : zx zblk xs 79 0 [some (.inr (.inr (some p))), some (.inr (.inl v1)), none] [] h = (zgl h (some p) 7 26 fun f1 => (zpf h (some p) 7 26 (.inr (.inl ((31 * f1) + v1))) fun h2 => some (none, h2))) := (zx_unfold zblk xs 79 0 _ rfl _ _ _).trans rfl
/-- MindReadersModel.sayCode(I)V -/
noncomputable abbrev r_M_sayCode (xs : List Int) (p : Nat) (v1 : Int) (h : zH) : Option zR := zx zblk xs 80 0 [some (.inr (.inr (some p))), some (.inl v1)] [] h
theorem e_M_sayCode_0 (xs : List Int) (p : Nat) (v1 : Int) (h : zH) : zx zblk xs 80 0 [some (.inr (.inr (some p))), some (.inl v1)] [] h = zx zblk xs 80 2 [some (.inr (.inr (some p))), some (.inl v1), some (.inl 0)] [] h := (zx_unfold zblk xs 80 0 _ rfl _ _ _).trans rfl
theorem e_M_sayCode_2 (xs : List Int) (p : Nat) (v1 : Int) (v2 : Int) (h : zH) : zx zblk xs 80 2 [some (.inr (.inr (some p))), some (.inl v1), some (.inl v2)] [] h = (zgr h (some p) 7 6 fun f1 => (zai xs h f1 v1 fun a2 => (if zw a2 ≤ zw v2 then zx zblk xs 80 70 [some (.inr (.inr (some p))), some (.inl v1)] [] h else zx zblk xs 80 14 [some (.inr (.inr (some p))), some (.inl v1), some (.inl v2), some (.inl 0)] [] h))) := (zx_unfold zblk xs 80 2 _ rfl _ _ _).trans rfl
theorem e_M_sayCode_14 (xs : List Int) (p : Nat) (v1 : Int) (v2 : Int) (v3 : Int) (h : zH) : zx zblk xs 80 14 [some (.inr (.inr (some p))), some (.inl v1), some (.inl v2), some (.inl v3)] [] h = (if zw 6 ≤ zw v3 then zx zblk xs 80 38 [some (.inr (.inr (some p))), some (.inl v1), some (.inl v2)] [] h else (zck h (some p) 7 (zci (zx zblk xs 24 0 [some (.inr (.inr (some p))), some (.inl v1), some (.inl v2), some (.inl v3)] [] h) fun r2 h1 => (zck h1 (some p) 7 (zcv (zx zblk xs 79 0 [some (.inr (.inr (some p))), some (.inr (.inl (zw r2))), none] [] h1) fun h3 => zx zblk xs 80 14 [some (.inr (.inr (some p))), some (.inl v1), some (.inl v2), some (.inl (v3 + 1))] [] h3))))) := (zx_unfold zblk xs 80 14 _ rfl _ _ _).trans rfl
theorem e_M_sayCode_38 (xs : List Int) (p : Nat) (v1 : Int) (v2 : Int) (h : zH) : zx zblk xs 80 38 [some (.inr (.inr (some p))), some (.inl v1), some (.inl v2)] [] h = (zck h (some p) 7 (zci (zx zblk xs 24 0 [some (.inr (.inr (some p))), some (.inl v1), some (.inl v2), some (.inl 10)] [] h) fun r2 h1 => (zck h1 (some p) 7 (zcv (zx zblk xs 79 0 [some (.inr (.inr (some p))), some (.inr (.inl (zw r2))), none] [] h1) fun h3 => (zck h3 (some p) 7 (zci (zx zblk xs 24 0 [some (.inr (.inr (some p))), some (.inl v1), some (.inl v2), some (.inl 30)] [] h3) fun r5 h4 => (zck h4 (some p) 7 (zcv (zx zblk xs 79 0 [some (.inr (.inr (some p))), some (.inr (.inl (zw r5))), none] [] h4) fun h6 => zx zblk xs 80 2 [some (.inr (.inr (some p))), some (.inl v1), some (.inl (v2 + 1))] [] h6)))))))) := (zx_unfold zblk xs 80 38 _ rfl _ _ _).trans rfl
theorem e_M_sayCode_70 (xs : List Int) (p : Nat) (v1 : Int) (h : zH) : zx zblk xs 80 70 [some (.inr (.inr (some p))), some (.inl v1)] [] h = (zck h (some p) 7 (zci (zx zblk xs 32 0 [some (.inr (.inr (some p))), some (.inl v1)] [] h) fun r2 h1 => (if zw r2 ≠ zw (-1) then zx zblk xs 80 84 [some (.inr (.inr (some p))), some (.inl v1)] [.inr (.inr (some p))] h1 else zx zblk xs 80 85 [some (.inr (.inr (some p))), some (.inl v1)] [.inr (.inl 1), .inr (.inr (some p))] h1))) := (zx_unfold zblk xs 80 70 _ rfl _ _ _).trans rfl
theorem e_M_sayCode_84 (xs : List Int) (p : Nat) (v1 : Int) (s0 : Option Nat) (h : zH) : zx zblk xs 80 84 [some (.inr (.inr (some p))), some (.inl v1)] [.inr (.inr s0)] h = zx zblk xs 80 85 [some (.inr (.inr (some p))), some (.inl v1)] [.inr (.inl 0), .inr (.inr s0)] h := (zx_unfold zblk xs 80 84 _ rfl _ _ _).trans rfl
theorem e_M_sayCode_85 (xs : List Int) (p : Nat) (v1 : Int) (s0 : Option Nat) (s1 : Int) (h : zH) : zx zblk xs 80 85 [some (.inr (.inr (some p))), some (.inl v1)] [.inr (.inl s1), .inr (.inr s0)] h = (zck h s0 7 (zcv (zx zblk xs 79 0 [some (.inr (.inr s0)), some (.inr (.inl s1)), none] [] h) fun h1 => (zck h1 (some p) 7 (zci (zx zblk xs 38 0 [some (.inr (.inr (some p))), some (.inl v1)] [] h1) fun r3 h2 => (zck h2 (some p) 7 (zcv (zx zblk xs 79 0 [some (.inr (.inr (some p))), some (.inr (.inl (zw r3))), none] [] h2) fun h4 => (zck h4 (some p) 7 (zci (zx zblk xs 46 0 [some (.inr (.inr (some p))), some (.inl v1)] [] h4) fun r6 h5 => (zck h5 (some p) 7 (zcv (zx zblk xs 79 0 [some (.inr (.inr (some p))), some (.inr (.inl (zw r6))), none] [] h5) fun h7 => (zck h7 (some p) 7 (zci (zx zblk xs 54 0 [some (.inr (.inr (some p))), some (.inl v1)] [] h7) fun r9 h8 => (zck h8 (some p) 7 (zcv (zx zblk xs 79 0 [some (.inr (.inr (some p))), some (.inr (.inl (zw r9))), none] [] h8) fun h10 => (zck h10 (some p) 7 (zci (zx zblk xs 73 0 [some (.inr (.inr (some p))), some (.inl v1)] [] h10) fun r12 h11 => (zck h11 (some p) 7 (zcv (zx zblk xs 79 0 [some (.inr (.inr (some p))), some (.inr (.inl (zw r12))), none] [] h11) fun h13 => some (none, h13))))))))))))))))))) := (zx_unfold zblk xs 80 85 _ rfl _ _ _).trans rfl
/-- MindReadersModel.digest()J -/
noncomputable abbrev r_M_digest (xs : List Int) (p : Nat) (h : zH) : Option zR := zx zblk xs 81 0 [some (.inr (.inr (some p)))] [] h
theorem e_M_digest_0 (xs : List Int) (p : Nat) (h : zH) : zx zblk xs 81 0 [some (.inr (.inr (some p)))] [] h = (zpf h (some p) 7 26 (.inr (.inl 479)) fun h1 => zx zblk xs 81 9 [some (.inr (.inr (some p))), some (.inl 0)] [] h1) := (zx_unfold zblk xs 81 0 _ rfl _ _ _).trans rfl
theorem e_M_digest_9 (xs : List Int) (p : Nat) (v1 : Int) (h : zH) : zx zblk xs 81 9 [some (.inr (.inr (some p))), some (.inl v1)] [] h = (zgi h (some p) 7 8 fun f1 => (if zw (4 * f1) ≤ zw v1 then zx zblk xs 81 36 [some (.inr (.inr (some p)))] [] h else (zgr h (some p) 7 9 fun f2 => (zai xs h f2 v1 fun a3 => (zck h (some p) 7 (zcv (zx zblk xs 79 0 [some (.inr (.inr (some p))), some (.inr (.inl (zw a3))), none] [] h) fun h4 => zx zblk xs 81 9 [some (.inr (.inr (some p))), some (.inl (v1 + 1))] [] h4)))))) := (zx_unfold zblk xs 81 9 _ rfl _ _ _).trans rfl
theorem e_M_digest_36 (xs : List Int) (p : Nat) (h : zH) : zx zblk xs 81 36 [some (.inr (.inr (some p)))] [] h = zx zblk xs 81 38 [some (.inr (.inr (some p))), some (.inl 0)] [] h := (zx_unfold zblk xs 81 36 _ rfl _ _ _).trans rfl
theorem e_M_digest_38 (xs : List Int) (p : Nat) (v1 : Int) (h : zH) : zx zblk xs 81 38 [some (.inr (.inr (some p))), some (.inl v1)] [] h = (zgi h (some p) 7 10 fun f1 => (if zw f1 ≤ zw v1 then zx zblk xs 81 63 [some (.inr (.inr (some p)))] [] h else (zgr h (some p) 7 11 fun f2 => (zai xs h f2 v1 fun a3 => (zck h (some p) 7 (zcv (zx zblk xs 79 0 [some (.inr (.inr (some p))), some (.inr (.inl (zw a3))), none] [] h) fun h4 => zx zblk xs 81 38 [some (.inr (.inr (some p))), some (.inl (v1 + 1))] [] h4)))))) := (zx_unfold zblk xs 81 38 _ rfl _ _ _).trans rfl
theorem e_M_digest_63 (xs : List Int) (p : Nat) (h : zH) : zx zblk xs 81 63 [some (.inr (.inr (some p)))] [] h = zx zblk xs 81 65 [some (.inr (.inr (some p))), some (.inl 0)] [] h := (zx_unfold zblk xs 81 63 _ rfl _ _ _).trans rfl
theorem e_M_digest_65 (xs : List Int) (p : Nat) (v1 : Int) (h : zH) : zx zblk xs 81 65 [some (.inr (.inr (some p))), some (.inl v1)] [] h = (zgi h (some p) 7 5 fun f1 => (if zw f1 ≤ zw v1 then zx zblk xs 81 84 [some (.inr (.inr (some p)))] [] h else (zck h (some p) 7 (zcv (zx zblk xs 80 0 [some (.inr (.inr (some p))), some (.inl v1)] [] h) fun h2 => zx zblk xs 81 65 [some (.inr (.inr (some p))), some (.inl (v1 + 1))] [] h2)))) := (zx_unfold zblk xs 81 65 _ rfl _ _ _).trans rfl
theorem e_M_digest_84 (xs : List Int) (p : Nat) (h : zH) : zx zblk xs 81 84 [some (.inr (.inr (some p)))] [] h = zx zblk xs 81 86 [some (.inr (.inr (some p))), some (.inl 0)] [] h := (zx_unfold zblk xs 81 84 _ rfl _ _ _).trans rfl
theorem e_M_digest_86 (xs : List Int) (p : Nat) (v1 : Int) (h : zH) : zx zblk xs 81 86 [some (.inr (.inr (some p))), some (.inl v1)] [] h = (zgi h (some p) 7 18 fun f1 => (if zw f1 ≤ zw v1 then zx zblk xs 81 141 [some (.inr (.inr (some p)))] [] h else zx zblk xs 81 96 [some (.inr (.inr (some p))), some (.inl v1), some (.inl 0)] [] h)) := (zx_unfold zblk xs 81 86 _ rfl _ _ _).trans rfl
theorem e_M_digest_96 (xs : List Int) (p : Nat) (v1 : Int) (v2 : Int) (h : zH) : zx zblk xs 81 96 [some (.inr (.inr (some p))), some (.inl v1), some (.inl v2)] [] h = (zgr h (some p) 7 19 fun f1 => (zai xs h f1 ((10 * v1) + 1) fun a2 => (if zw (2 + a2) ≤ zw v2 then zx zblk xs 81 135 [some (.inr (.inr (some p))), some (.inl v1)] [] h else (zgr h (some p) 7 19 fun f3 => (zai xs h f3 ((10 * v1) + v2) fun a4 => (zck h (some p) 7 (zcv (zx zblk xs 79 0 [some (.inr (.inr (some p))), some (.inr (.inl (zw a4))), none] [] h) fun h5 => zx zblk xs 81 96 [some (.inr (.inr (some p))), some (.inl v1), some (.inl (v2 + 1))] [] h5))))))) := (zx_unfold zblk xs 81 96 _ rfl _ _ _).trans rfl
theorem e_M_digest_135 (xs : List Int) (p : Nat) (v1 : Int) (h : zH) : zx zblk xs 81 135 [some (.inr (.inr (some p))), some (.inl v1)] [] h = zx zblk xs 81 86 [some (.inr (.inr (some p))), some (.inl (v1 + 1))] [] h := (zx_unfold zblk xs 81 135 _ rfl _ _ _).trans rfl
theorem e_M_digest_141 (xs : List Int) (p : Nat) (h : zH) : zx zblk xs 81 141 [some (.inr (.inr (some p)))] [] h = (zck h (some p) 7 (zci (zx zblk xs 62 0 [some (.inr (.inr (some p)))] [] h) fun r2 h1 => (zck h1 (some p) 7 (zcv (zx zblk xs 79 0 [some (.inr (.inr (some p))), some (.inr (.inl (zw r2))), none] [] h1) fun h3 => zx zblk xs 81 152 [some (.inr (.inr (some p))), some (.inl 0)] [] h3)))) := (zx_unfold zblk xs 81 141 _ rfl _ _ _).trans rfl
theorem e_M_digest_152 (xs : List Int) (p : Nat) (v1 : Int) (h : zH) : zx zblk xs 81 152 [some (.inr (.inr (some p))), some (.inl v1)] [] h = (zgi h (some p) 7 1 fun f1 => (if zw f1 ≤ zw v1 then zx zblk xs 81 177 [some (.inr (.inr (some p)))] [] h else (zgr h (some p) 7 0 fun f2 => (zai xs h f2 v1 fun a3 => (zck h (some p) 7 (zcv (zx zblk xs 79 0 [some (.inr (.inr (some p))), some (.inr (.inl (zw a3))), none] [] h) fun h4 => zx zblk xs 81 152 [some (.inr (.inr (some p))), some (.inl (v1 + 1))] [] h4)))))) := (zx_unfold zblk xs 81 152 _ rfl _ _ _).trans rfl
theorem e_M_digest_177 (xs : List Int) (p : Nat) (h : zH) : zx zblk xs 81 177 [some (.inr (.inr (some p)))] [] h = zx zblk xs 81 179 [some (.inr (.inr (some p))), some (.inl 0)] [] h := (zx_unfold zblk xs 81 177 _ rfl _ _ _).trans rfl
theorem e_M_digest_179 (xs : List Int) (p : Nat) (v1 : Int) (h : zH) : zx zblk xs 81 179 [some (.inr (.inr (some p))), some (.inl v1)] [] h = (if zw 6 ≤ zw v1 then zx zblk xs 81 201 [some (.inr (.inr (some p)))] [] h else (zck h (some p) 7 (zci (zx zblk xs 77 0 [some (.inr (.inr (some p))), some (.inl v1)] [] h) fun r2 h1 => (zck h1 (some p) 7 (zcv (zx zblk xs 79 0 [some (.inr (.inr (some p))), some (.inr (.inl (zw r2))), none] [] h1) fun h3 => zx zblk xs 81 179 [some (.inr (.inr (some p))), some (.inl (v1 + 1))] [] h3))))) := (zx_unfold zblk xs 81 179 _ rfl _ _ _).trans rfl
theorem e_M_digest_201 (xs : List Int) (p : Nat) (h : zH) : zx zblk xs 81 201 [some (.inr (.inr (some p)))] [] h = (zgl h (some p) 7 26 fun f1 => some (some (.inr (.inl f1)), h)) := (zx_unfold zblk xs 81 201 _ rfl _ _ _).trans rfl
end
section
/-! ===== what each block of code does (printed by a program of mine; each by rfl) ===== -/
/-- MindReaders$Code.size()I -/
noncomputable abbrev r_Code_size (xs : List Int) (p : Nat) (h : zH) : Option zR := zx zblk xs 83 0 [some (.inr (.inr (some p)))] [] h
theorem e_Code_size_0 (xs : List Int) (p : Nat) (h : zH) : zx zblk xs 83 0 [some (.inr (.inr (some p)))] [] h = (zgi h (some p) 0 2 fun f1 => some (some (.inl f1), h)) := (zx_unfold zblk xs 83 0 _ rfl _ _ _).trans rfl
/-- MindReaders$Code.spoken(I)LMindReaders$Row; -/
noncomputable abbrev r_Code_spoken (xs : List Int) (p : Nat) (v1 : Int) (h : zH) : Option zR := zx zblk xs 84 0 [some (.inr (.inr (some p))), some (.inl v1)] [] h
theorem e_Code_spoken_0 (xs : List Int) (p : Nat) (v1 : Int) (h : zH) : zx zblk xs 84 0 [some (.inr (.inr (some p))), some (.inl v1)] [] h = (zgr h (some p) 0 0 fun f1 => (zck h f1 4 (zcr (zx zblk xs 121 0 [some (.inr (.inr f1)), some (.inl v1)] [] h) fun r3 h2 => some (some (.inr (.inr r3)), h2)))) := (zx_unfold zblk xs 84 0 _ rfl _ _ _).trans rfl
/-- MindReaders$Code.plain(I)LMindReaders$Row; -/
noncomputable abbrev r_Code_plain (xs : List Int) (p : Nat) (v1 : Int) (h : zH) : Option zR := zx zblk xs 85 0 [some (.inr (.inr (some p))), some (.inl v1)] [] h
theorem e_Code_plain_0 (xs : List Int) (p : Nat) (v1 : Int) (h : zH) : zx zblk xs 85 0 [some (.inr (.inr (some p))), some (.inl v1)] [] h = (zgr h (some p) 0 1 fun f1 => (zck h f1 4 (zcr (zx zblk xs 121 0 [some (.inr (.inr f1)), some (.inl v1)] [] h) fun r3 h2 => some (some (.inr (.inr r3)), h2)))) := (zx_unfold zblk xs 85 0 _ rfl _ _ _).trans rfl
/-- MindReaders$Code.readFrom(LMindReaders$Row;)V -/
noncomputable abbrev r_Code_readFrom (xs : List Int) (p : Nat) (v1 : Option Nat) (h : zH) : Option zR := zx zblk xs 86 0 [some (.inr (.inr (some p))), some (.inr (.inr v1))] [] h
theorem e_Code_readFrom_0 (xs : List Int) (p : Nat) (v1 : Option Nat) (h : zH) : zx zblk xs 86 0 [some (.inr (.inr (some p))), some (.inr (.inr v1))] [] h = (zpf h (some p) 0 2 (.inl 1) fun h1 => zx zblk xs 86 7 [some (.inr (.inr (some p))), some (.inr (.inr v1)), some (.inl 0)] [] h1) := (zx_unfold zblk xs 86 0 _ rfl _ _ _).trans rfl
theorem e_Code_readFrom_7 (xs : List Int) (p : Nat) (v1 : Option Nat) (v2 : Int) (h : zH) : zx zblk xs 86 7 [some (.inr (.inr (some p))), some (.inr (.inr v1)), some (.inl v2)] [] h = (zck h v1 3 (zci (zx zblk xs 106 0 [some (.inr (.inr v1))] [] h) fun r2 h1 => (if zw r2 ≤ zw v2 then zx zblk xs 86 62 [] [] h1 else (zck h1 v1 3 (zci (zx zblk xs 107 0 [some (.inr (.inr v1)), some (.inl v2)] [] h1) fun r4 h3 => (zci (zx zblk xs 175 0 [some (.inl r4)] [] h3) fun r6 h5 => (if zw r6 ≠ zw (-1) then zx zblk xs 86 42 [some (.inr (.inr (some p))), some (.inr (.inr v1)), some (.inl v2), some (.inl r6)] [] h5 else (zgi h5 (some p) 0 2 fun f7 => (zpf h5 (some p) 0 2 (.inl (f7 + 1)) fun h8 => zx zblk xs 86 56 [some (.inr (.inr (some p))), some (.inr (.inr v1)), some (.inl v2)] [] h8))))))))) := (zx_unfold zblk xs 86 7 _ rfl _ _ _).trans rfl
theorem e_Code_readFrom_42 (xs : List Int) (p : Nat) (v1 : Option Nat) (v2 : Int) (v3 : Int) (h : zH) : zx zblk xs 86 42 [some (.inr (.inr (some p))), some (.inr (.inr v1)), some (.inl v2), some (.inl v3)] [] h = (zgi h (some p) 0 2 fun f1 => (zck h (some p) 0 (zcr (zx zblk xs 84 0 [some (.inr (.inr (some p))), some (.inl (f1 - 1))] [] h) fun r3 h2 => (zck h2 r3 3 (zcv (zx zblk xs 109 0 [some (.inr (.inr r3)), some (.inl v3)] [] h2) fun h4 => zx zblk xs 86 56 [some (.inr (.inr (some p))), some (.inr (.inr v1)), some (.inl v2)] [] h4))))) := (zx_unfold zblk xs 86 42 _ rfl _ _ _).trans rfl
theorem e_Code_readFrom_56 (xs : List Int) (p : Nat) (v1 : Option Nat) (v2 : Int) (h : zH) : zx zblk xs 86 56 [some (.inr (.inr (some p))), some (.inr (.inr v1)), some (.inl v2)] [] h = zx zblk xs 86 7 [some (.inr (.inr (some p))), some (.inr (.inr v1)), some (.inl (v2 + 1))] [] h := (zx_unfold zblk xs 86 56 _ rfl _ _ _).trans rfl
theorem e_Code_readFrom_62 (xs : List Int)  (h : zH) : zx zblk xs 86 62 [] [] h = some (none, h) := (zx_unfold zblk xs 86 62 _ rfl _ _ _).trans rfl
/-- MindReaders$Code.makePlain(LMindReaders$Signals;)V -/
noncomputable abbrev r_Code_makePlain (xs : List Int) (p : Nat) (v1 : Option Nat) (h : zH) : Option zR := zx zblk xs 87 0 [some (.inr (.inr (some p))), some (.inr (.inr v1))] [] h
theorem e_Code_makePlain_0 (xs : List Int) (p : Nat) (v1 : Option Nat) (h : zH) : zx zblk xs 87 0 [some (.inr (.inr (some p))), some (.inr (.inr v1))] [] h = zx zblk xs 87 2 [some (.inr (.inr (some p))), some (.inr (.inr v1)), some (.inl 0)] [] h := (zx_unfold zblk xs 87 0 _ rfl _ _ _).trans rfl
theorem e_Code_makePlain_2 (xs : List Int) (p : Nat) (v1 : Option Nat) (v2 : Int) (h : zH) : zx zblk xs 87 2 [some (.inr (.inr (some p))), some (.inr (.inr v1)), some (.inl v2)] [] h = (zgi h (some p) 0 2 fun f1 => (if zw f1 ≤ zw v2 then zx zblk xs 87 31 [] [] h else (zck h (some p) 0 (zcr (zx zblk xs 84 0 [some (.inr (.inr (some p))), some (.inl v2)] [] h) fun r3 h2 => (zck h2 (some p) 0 (zcr (zx zblk xs 85 0 [some (.inr (.inr (some p))), some (.inl v2)] [] h2) fun r5 h4 => (zck h4 v1 5 (zcv (zx zblk xs 133 0 [some (.inr (.inr v1)), some (.inr (.inr r3)), some (.inl 0), some (.inr (.inr r5))] [] h4) fun h6 => zx zblk xs 87 2 [some (.inr (.inr (some p))), some (.inr (.inr v1)), some (.inl (v2 + 1))] [] h6)))))))) := (zx_unfold zblk xs 87 2 _ rfl _ _ _).trans rfl
theorem e_Code_makePlain_31 (xs : List Int)  (h : zH) : zx zblk xs 87 31 [] [] h = some (none, h) := (zx_unfold zblk xs 87 31 _ rfl _ _ _).trans rfl
/-- MindReaders$Code.meaningOf(LMindReaders$Row;)I -/
noncomputable abbrev r_Code_meaningOf (xs : List Int) (p : Nat) (v1 : Option Nat) (h : zH) : Option zR := zx zblk xs 88 0 [some (.inr (.inr (some p))), some (.inr (.inr v1))] [] h
theorem e_Code_meaningOf_0 (xs : List Int) (p : Nat) (v1 : Option Nat) (h : zH) : zx zblk xs 88 0 [some (.inr (.inr (some p))), some (.inr (.inr v1))] [] h = zx zblk xs 88 2 [some (.inr (.inr (some p))), some (.inr (.inr v1)), some (.inl 0)] [] h := (zx_unfold zblk xs 88 0 _ rfl _ _ _).trans rfl
theorem e_Code_meaningOf_2 (xs : List Int) (p : Nat) (v1 : Option Nat) (v2 : Int) (h : zH) : zx zblk xs 88 2 [some (.inr (.inr (some p))), some (.inr (.inr v1)), some (.inl v2)] [] h = (zgi h (some p) 0 2 fun f1 => (if zw f1 ≤ zw v2 then zx zblk xs 88 30 [] [] h else (zck h (some p) 0 (zcr (zx zblk xs 85 0 [some (.inr (.inr (some p))), some (.inl v2)] [] h) fun r3 h2 => (zck h2 r3 3 (zci (zx zblk xs 113 0 [some (.inr (.inr r3)), some (.inr (.inr v1))] [] h2) fun r5 h4 => (if zw r5 = 0 then zx zblk xs 88 24 [some (.inr (.inr (some p))), some (.inr (.inr v1)), some (.inl v2)] [] h4 else some (some (.inl v2), h4)))))))) := (zx_unfold zblk xs 88 2 _ rfl _ _ _).trans rfl
theorem e_Code_meaningOf_24 (xs : List Int) (p : Nat) (v1 : Option Nat) (v2 : Int) (h : zH) : zx zblk xs 88 24 [some (.inr (.inr (some p))), some (.inr (.inr v1)), some (.inl v2)] [] h = zx zblk xs 88 2 [some (.inr (.inr (some p))), some (.inr (.inr v1)), some (.inl (v2 + 1))] [] h := (zx_unfold zblk xs 88 24 _ rfl _ _ _).trans rfl
theorem e_Code_meaningOf_30 (xs : List Int)  (h : zH) : zx zblk xs 88 30 [] [] h = some (some (.inl (-1)), h) := (zx_unfold zblk xs 88 30 _ rfl _ _ _).trans rfl
/-- MindReaders$Code.firstAlike()I -/
noncomputable abbrev r_Code_firstAlike (xs : List Int) (p : Nat) (h : zH) : Option zR := zx zblk xs 89 0 [some (.inr (.inr (some p)))] [] h
theorem e_Code_firstAlike_0 (xs : List Int) (p : Nat) (h : zH) : zx zblk xs 89 0 [some (.inr (.inr (some p)))] [] h = zx zblk xs 89 2 [some (.inr (.inr (some p))), some (.inl 0)] [] h := (zx_unfold zblk xs 89 0 _ rfl _ _ _).trans rfl
theorem e_Code_firstAlike_2 (xs : List Int) (p : Nat) (v1 : Int) (h : zH) : zx zblk xs 89 2 [some (.inr (.inr (some p))), some (.inl v1)] [] h = (zgi h (some p) 0 2 fun f1 => (if zw f1 ≤ zw v1 then zx zblk xs 89 57 [] [] h else zx zblk xs 89 14 [some (.inr (.inr (some p))), some (.inl v1), some (.inl (v1 + 1))] [] h)) := (zx_unfold zblk xs 89 2 _ rfl _ _ _).trans rfl
theorem e_Code_firstAlike_14 (xs : List Int) (p : Nat) (v1 : Int) (v2 : Int) (h : zH) : zx zblk xs 89 14 [some (.inr (.inr (some p))), some (.inl v1), some (.inl v2)] [] h = (zgi h (some p) 0 2 fun f1 => (if zw f1 ≤ zw v2 then zx zblk xs 89 51 [some (.inr (.inr (some p))), some (.inl v1)] [] h else (zck h (some p) 0 (zcr (zx zblk xs 85 0 [some (.inr (.inr (some p))), some (.inl v1)] [] h) fun r3 h2 => (zck h2 (some p) 0 (zcr (zx zblk xs 85 0 [some (.inr (.inr (some p))), some (.inl v2)] [] h2) fun r5 h4 => (zck h4 r3 3 (zci (zx zblk xs 113 0 [some (.inr (.inr r3)), some (.inr (.inr r5))] [] h4) fun r7 h6 => (if zw r7 = 0 then zx zblk xs 89 45 [some (.inr (.inr (some p))), some (.inl v1), some (.inl v2)] [] h6 else some (some (.inl ((v1 * 8) + v2)), h6)))))))))) := (zx_unfold zblk xs 89 14 _ rfl _ _ _).trans rfl
theorem e_Code_firstAlike_45 (xs : List Int) (p : Nat) (v1 : Int) (v2 : Int) (h : zH) : zx zblk xs 89 45 [some (.inr (.inr (some p))), some (.inl v1), some (.inl v2)] [] h = zx zblk xs 89 14 [some (.inr (.inr (some p))), some (.inl v1), some (.inl (v2 + 1))] [] h := (zx_unfold zblk xs 89 45 _ rfl _ _ _).trans rfl
theorem e_Code_firstAlike_51 (xs : List Int) (p : Nat) (v1 : Int) (h : zH) : zx zblk xs 89 51 [some (.inr (.inr (some p))), some (.inl v1)] [] h = zx zblk xs 89 2 [some (.inr (.inr (some p))), some (.inl (v1 + 1))] [] h := (zx_unfold zblk xs 89 51 _ rfl _ _ _).trans rfl
theorem e_Code_firstAlike_57 (xs : List Int)  (h : zH) : zx zblk xs 89 57 [] [] h = some (some (.inl (-1)), h) := (zx_unfold zblk xs 89 57 _ rfl _ _ _).trans rfl
/-- MindReaders$Code.firstStart()I -/
noncomputable abbrev r_Code_firstStart (xs : List Int) (p : Nat) (h : zH) : Option zR := zx zblk xs 90 0 [some (.inr (.inr (some p)))] [] h
theorem e_Code_firstStart_0 (xs : List Int) (p : Nat) (h : zH) : zx zblk xs 90 0 [some (.inr (.inr (some p)))] [] h = zx zblk xs 90 2 [some (.inr (.inr (some p))), some (.inl 0)] [] h := (zx_unfold zblk xs 90 0 _ rfl _ _ _).trans rfl
theorem e_Code_firstStart_2 (xs : List Int) (p : Nat) (v1 : Int) (h : zH) : zx zblk xs 90 2 [some (.inr (.inr (some p))), some (.inl v1)] [] h = (zgi h (some p) 0 2 fun f1 => (if zw f1 ≤ zw v1 then zx zblk xs 90 74 [] [] h else zx zblk xs 90 12 [some (.inr (.inr (some p))), some (.inl v1), some (.inl 0)] [] h)) := (zx_unfold zblk xs 90 2 _ rfl _ _ _).trans rfl
theorem e_Code_firstStart_12 (xs : List Int) (p : Nat) (v1 : Int) (v2 : Int) (h : zH) : zx zblk xs 90 12 [some (.inr (.inr (some p))), some (.inl v1), some (.inl v2)] [] h = (zgi h (some p) 0 2 fun f1 => (if zw f1 ≤ zw v2 then zx zblk xs 90 68 [some (.inr (.inr (some p))), some (.inl v1)] [] h else (zck h (some p) 0 (zcr (zx zblk xs 85 0 [some (.inr (.inr (some p))), some (.inl v1)] [] h) fun r3 h2 => (zck h2 r3 3 (zci (zx zblk xs 106 0 [some (.inr (.inr r3))] [] h2) fun r5 h4 => (zck h4 (some p) 0 (zcr (zx zblk xs 85 0 [some (.inr (.inr (some p))), some (.inl v2)] [] h4) fun r7 h6 => (zck h6 r7 3 (zci (zx zblk xs 106 0 [some (.inr (.inr r7))] [] h6) fun r9 h8 => (if zw r9 ≤ zw r5 then zx zblk xs 90 62 [some (.inr (.inr (some p))), some (.inl v1), some (.inl v2)] [] h8 else (zck h8 (some p) 0 (zcr (zx zblk xs 85 0 [some (.inr (.inr (some p))), some (.inl v1)] [] h8) fun r11 h10 => (zck h10 (some p) 0 (zcr (zx zblk xs 85 0 [some (.inr (.inr (some p))), some (.inl v2)] [] h10) fun r13 h12 => (zck h12 r11 3 (zci (zx zblk xs 114 0 [some (.inr (.inr r11)), some (.inr (.inr r13))] [] h12) fun r15 h14 => (if zw r15 = 0 then zx zblk xs 90 62 [some (.inr (.inr (some p))), some (.inl v1), some (.inl v2)] [] h14 else some (some (.inl ((v1 * 8) + v2)), h14))))))))))))))))))) := (zx_unfold zblk xs 90 12 _ rfl _ _ _).trans rfl
theorem e_Code_firstStart_62 (xs : List Int) (p : Nat) (v1 : Int) (v2 : Int) (h : zH) : zx zblk xs 90 62 [some (.inr (.inr (some p))), some (.inl v1), some (.inl v2)] [] h = zx zblk xs 90 12 [some (.inr (.inr (some p))), some (.inl v1), some (.inl (v2 + 1))] [] h := (zx_unfold zblk xs 90 62 _ rfl _ _ _).trans rfl
theorem e_Code_firstStart_68 (xs : List Int) (p : Nat) (v1 : Int) (h : zH) : zx zblk xs 90 68 [some (.inr (.inr (some p))), some (.inl v1)] [] h = zx zblk xs 90 2 [some (.inr (.inr (some p))), some (.inl (v1 + 1))] [] h := (zx_unfold zblk xs 90 68 _ rfl _ _ _).trans rfl
theorem e_Code_firstStart_74 (xs : List Int)  (h : zH) : zx zblk xs 90 74 [] [] h = some (some (.inl (-1)), h) := (zx_unfold zblk xs 90 74 _ rfl _ _ _).trans rfl
/-- MindReaders$Code.leastApart()I -/
noncomputable abbrev r_Code_leastApart (xs : List Int) (p : Nat) (h : zH) : Option zR := zx zblk xs 91 0 [some (.inr (.inr (some p)))] [] h
theorem e_Code_leastApart_0 (xs : List Int) (p : Nat) (h : zH) : zx zblk xs 91 0 [some (.inr (.inr (some p)))] [] h = zx zblk xs 91 4 [some (.inr (.inr (some p))), some (.inl (-1)), some (.inl 0)] [] h := (zx_unfold zblk xs 91 0 _ rfl _ _ _).trans rfl
theorem e_Code_leastApart_4 (xs : List Int) (p : Nat) (v1 : Int) (v2 : Int) (h : zH) : zx zblk xs 91 4 [some (.inr (.inr (some p))), some (.inl v1), some (.inl v2)] [] h = (zgi h (some p) 0 2 fun f1 => (if zw f1 ≤ zw v2 then zx zblk xs 91 81 [none, some (.inl v1)] [] h else (zck h (some p) 0 (zcr (zx zblk xs 85 0 [some (.inr (.inr (some p))), some (.inl v2)] [] h) fun r3 h2 => (zck h2 r3 3 (zci (zx zblk xs 106 0 [some (.inr (.inr r3))] [] h2) fun r5 h4 => (zck h4 (some p) 0 (zcr (zx zblk xs 85 0 [some (.inr (.inr (some p))), some (.inl 0)] [] h4) fun r7 h6 => (zck h6 r7 3 (zci (zx zblk xs 106 0 [some (.inr (.inr r7))] [] h6) fun r9 h8 => (if zw r5 = zw r9 then zx zblk xs 91 33 [some (.inr (.inr (some p))), some (.inl v1), some (.inl v2)] [] h8 else some (some (.inl (-1)), h8)))))))))))) := (zx_unfold zblk xs 91 4 _ rfl _ _ _).trans rfl
theorem e_Code_leastApart_33 (xs : List Int) (p : Nat) (v1 : Int) (v2 : Int) (h : zH) : zx zblk xs 91 33 [some (.inr (.inr (some p))), some (.inl v1), some (.inl v2)] [] h = zx zblk xs 91 35 [some (.inr (.inr (some p))), some (.inl v1), some (.inl v2), some (.inl 0)] [] h := (zx_unfold zblk xs 91 33 _ rfl _ _ _).trans rfl
theorem e_Code_leastApart_35 (xs : List Int) (p : Nat) (v1 : Int) (v2 : Int) (v3 : Int) (h : zH) : zx zblk xs 91 35 [some (.inr (.inr (some p))), some (.inl v1), some (.inl v2), some (.inl v3)] [] h = (if zw v2 ≤ zw v3 then zx zblk xs 91 75 [some (.inr (.inr (some p))), some (.inl v1), some (.inl v2)] [] h else (zck h (some p) 0 (zcr (zx zblk xs 85 0 [some (.inr (.inr (some p))), some (.inl v2)] [] h) fun r2 h1 => (zck h1 (some p) 0 (zcr (zx zblk xs 85 0 [some (.inr (.inr (some p))), some (.inl v3)] [] h1) fun r4 h3 => (zck h3 r2 3 (zci (zx zblk xs 115 0 [some (.inr (.inr r2)), some (.inr (.inr r4))] [] h3) fun r6 h5 => (if zw v1 = zw (-1) then zx zblk xs 91 66 [some (.inr (.inr (some p))), none, some (.inl v2), some (.inl v3), some (.inl r6)] [] h5 else (if zw v1 ≤ zw r6 then zx zblk xs 91 69 [some (.inr (.inr (some p))), some (.inl v1), some (.inl v2), some (.inl v3)] [] h5 else zx zblk xs 91 66 [some (.inr (.inr (some p))), none, some (.inl v2), some (.inl v3), some (.inl r6)] [] h5))))))))) := (zx_unfold zblk xs 91 35 _ rfl _ _ _).trans rfl
theorem e_Code_leastApart_66 (xs : List Int) (p : Nat) (v2 : Int) (v3 : Int) (v4 : Int) (h : zH) : zx zblk xs 91 66 [some (.inr (.inr (some p))), none, some (.inl v2), some (.inl v3), some (.inl v4)] [] h = zx zblk xs 91 69 [some (.inr (.inr (some p))), some (.inl v4), some (.inl v2), some (.inl v3)] [] h := (zx_unfold zblk xs 91 66 _ rfl _ _ _).trans rfl
theorem e_Code_leastApart_69 (xs : List Int) (p : Nat) (v1 : Int) (v2 : Int) (v3 : Int) (h : zH) : zx zblk xs 91 69 [some (.inr (.inr (some p))), some (.inl v1), some (.inl v2), some (.inl v3)] [] h = zx zblk xs 91 35 [some (.inr (.inr (some p))), some (.inl v1), some (.inl v2), some (.inl (v3 + 1))] [] h := (zx_unfold zblk xs 91 69 _ rfl _ _ _).trans rfl
theorem e_Code_leastApart_75 (xs : List Int) (p : Nat) (v1 : Int) (v2 : Int) (h : zH) : zx zblk xs 91 75 [some (.inr (.inr (some p))), some (.inl v1), some (.inl v2)] [] h = zx zblk xs 91 4 [some (.inr (.inr (some p))), some (.inl v1), some (.inl (v2 + 1))] [] h := (zx_unfold zblk xs 91 75 _ rfl _ _ _).trans rfl
theorem e_Code_leastApart_81 (xs : List Int) (v1 : Int) (h : zH) : zx zblk xs 91 81 [none, some (.inl v1)] [] h = some (some (.inl v1), h) := (zx_unfold zblk xs 91 81 _ rfl _ _ _).trans rfl
/-- MindReaders$Code.nearestTo(LMindReaders$Row;)I -/
noncomputable abbrev r_Code_nearestTo (xs : List Int) (p : Nat) (v1 : Option Nat) (h : zH) : Option zR := zx zblk xs 92 0 [some (.inr (.inr (some p))), some (.inr (.inr v1))] [] h
theorem e_Code_nearestTo_0 (xs : List Int) (p : Nat) (v1 : Option Nat) (h : zH) : zx zblk xs 92 0 [some (.inr (.inr (some p))), some (.inr (.inr v1))] [] h = zx zblk xs 92 7 [some (.inr (.inr (some p))), some (.inr (.inr v1)), some (.inl (-1)), some (.inl 0), some (.inl 0)] [] h := (zx_unfold zblk xs 92 0 _ rfl _ _ _).trans rfl
theorem e_Code_nearestTo_7 (xs : List Int) (p : Nat) (v1 : Option Nat) (v2 : Int) (v3 : Int) (v4 : Int) (h : zH) : zx zblk xs 92 7 [some (.inr (.inr (some p))), some (.inr (.inr v1)), some (.inl v2), some (.inl v3), some (.inl v4)] [] h = (zgi h (some p) 0 2 fun f1 => (if zw f1 ≤ zw v4 then zx zblk xs 92 70 [none, none, some (.inl v2)] [] h else (zck h (some p) 0 (zcr (zx zblk xs 85 0 [some (.inr (.inr (some p))), some (.inl v4)] [] h) fun r3 h2 => (zck h2 r3 3 (zci (zx zblk xs 106 0 [some (.inr (.inr r3))] [] h2) fun r5 h4 => (zck h4 v1 3 (zci (zx zblk xs 106 0 [some (.inr (.inr v1))] [] h4) fun r7 h6 => (if zw r5 = zw r7 then zx zblk xs 92 35 [some (.inr (.inr (some p))), some (.inr (.inr v1)), some (.inl v2), some (.inl v3), some (.inl v4)] [] h6 else zx zblk xs 92 64 [some (.inr (.inr (some p))), some (.inr (.inr v1)), some (.inl v2), some (.inl v3), some (.inl v4)] [] h6))))))))) := (zx_unfold zblk xs 92 7 _ rfl _ _ _).trans rfl
theorem e_Code_nearestTo_35 (xs : List Int) (p : Nat) (v1 : Option Nat) (v2 : Int) (v3 : Int) (v4 : Int) (h : zH) : zx zblk xs 92 35 [some (.inr (.inr (some p))), some (.inr (.inr v1)), some (.inl v2), some (.inl v3), some (.inl v4)] [] h = (zck h (some p) 0 (zcr (zx zblk xs 85 0 [some (.inr (.inr (some p))), some (.inl v4)] [] h) fun r2 h1 => (zck h1 r2 3 (zci (zx zblk xs 115 0 [some (.inr (.inr r2)), some (.inr (.inr v1))] [] h1) fun r4 h3 => (if zw v2 = zw (-1) then zx zblk xs 92 58 [some (.inr (.inr (some p))), some (.inr (.inr v1)), none, none, some (.inl v4), some (.inl r4)] [] h3 else (if zw v3 ≤ zw r4 then zx zblk xs 92 64 [some (.inr (.inr (some p))), some (.inr (.inr v1)), some (.inl v2), some (.inl v3), some (.inl v4)] [] h3 else zx zblk xs 92 58 [some (.inr (.inr (some p))), some (.inr (.inr v1)), none, none, some (.inl v4), some (.inl r4)] [] h3)))))) := (zx_unfold zblk xs 92 35 _ rfl _ _ _).trans rfl
theorem e_Code_nearestTo_58 (xs : List Int) (p : Nat) (v1 : Option Nat) (v4 : Int) (v5 : Int) (h : zH) : zx zblk xs 92 58 [some (.inr (.inr (some p))), some (.inr (.inr v1)), none, none, some (.inl v4), some (.inl v5)] [] h = zx zblk xs 92 64 [some (.inr (.inr (some p))), some (.inr (.inr v1)), some (.inl v4), some (.inl v5), some (.inl v4)] [] h := (zx_unfold zblk xs 92 58 _ rfl _ _ _).trans rfl
theorem e_Code_nearestTo_64 (xs : List Int) (p : Nat) (v1 : Option Nat) (v2 : Int) (v3 : Int) (v4 : Int) (h : zH) : zx zblk xs 92 64 [some (.inr (.inr (some p))), some (.inr (.inr v1)), some (.inl v2), some (.inl v3), some (.inl v4)] [] h = zx zblk xs 92 7 [some (.inr (.inr (some p))), some (.inr (.inr v1)), some (.inl v2), some (.inl v3), some (.inl (v4 + 1))] [] h := (zx_unfold zblk xs 92 64 _ rfl _ _ _).trans rfl
theorem e_Code_nearestTo_70 (xs : List Int) (v2 : Int) (h : zH) : zx zblk xs 92 70 [none, none, some (.inl v2)] [] h = some (some (.inl v2), h) := (zx_unfold zblk xs 92 70 _ rfl _ _ _).trans rfl
/-- MindReaders$Notes.size()I -/
noncomputable abbrev r_Notes_size (xs : List Int) (p : Nat) (h : zH) : Option zR := zx zblk xs 94 0 [some (.inr (.inr (some p)))] [] h
theorem e_Notes_size_0 (xs : List Int) (p : Nat) (h : zH) : zx zblk xs 94 0 [some (.inr (.inr (some p)))] [] h = (zgr h (some p) 1 0 fun f1 => (zck h f1 3 (zci (zx zblk xs 106 0 [some (.inr (.inr f1))] [] h) fun r3 h2 => some (some (.inl r3), h2)))) := (zx_unfold zblk xs 94 0 _ rfl _ _ _).trans rfl
/-- MindReaders$Notes.thingOf(I)I -/
noncomputable abbrev r_Notes_thingOf (xs : List Int) (p : Nat) (v1 : Int) (h : zH) : Option zR := zx zblk xs 95 0 [some (.inr (.inr (some p))), some (.inl v1)] [] h
theorem e_Notes_thingOf_0 (xs : List Int) (p : Nat) (v1 : Int) (h : zH) : zx zblk xs 95 0 [some (.inr (.inr (some p))), some (.inl v1)] [] h = (zgr h (some p) 1 0 fun f1 => (zck h f1 3 (zci (zx zblk xs 107 0 [some (.inr (.inr f1)), some (.inl v1)] [] h) fun r3 h2 => some (some (.inl r3), h2)))) := (zx_unfold zblk xs 95 0 _ rfl _ _ _).trans rfl
/-- MindReaders$Notes.rowOf(I)LMindReaders$Row; -/
noncomputable abbrev r_Notes_rowOf (xs : List Int) (p : Nat) (v1 : Int) (h : zH) : Option zR := zx zblk xs 96 0 [some (.inr (.inr (some p))), some (.inl v1)] [] h
theorem e_Notes_rowOf_0 (xs : List Int) (p : Nat) (v1 : Int) (h : zH) : zx zblk xs 96 0 [some (.inr (.inr (some p))), some (.inl v1)] [] h = (zgr h (some p) 1 1 fun f1 => (zck h f1 4 (zcr (zx zblk xs 121 0 [some (.inr (.inr f1)), some (.inl v1)] [] h) fun r3 h2 => some (some (.inr (.inr r3)), h2)))) := (zx_unfold zblk xs 96 0 _ rfl _ _ _).trans rfl
/-- MindReaders$Notes.add(ILMindReaders$Row;)V -/
noncomputable abbrev r_Notes_add (xs : List Int) (p : Nat) (v1 : Int) (v2 : Option Nat) (h : zH) : Option zR := zx zblk xs 97 0 [some (.inr (.inr (some p))), some (.inl v1), some (.inr (.inr v2))] [] h
theorem e_Notes_add_0 (xs : List Int) (p : Nat) (v1 : Int) (v2 : Option Nat) (h : zH) : zx zblk xs 97 0 [some (.inr (.inr (some p))), some (.inl v1), some (.inr (.inr v2))] [] h = (zgr h (some p) 1 1 fun f1 => (zgr h (some p) 1 0 fun f2 => (zck h f2 3 (zci (zx zblk xs 106 0 [some (.inr (.inr f2))] [] h) fun r4 h3 => (zck h3 f1 4 (zcr (zx zblk xs 121 0 [some (.inr (.inr f1)), some (.inl r4)] [] h3) fun r6 h5 => (zck h5 r6 3 (zcv (zx zblk xs 112 0 [some (.inr (.inr r6)), some (.inr (.inr v2))] [] h5) fun h7 => (zgr h7 (some p) 1 0 fun f8 => (zck h7 f8 3 (zcv (zx zblk xs 109 0 [some (.inr (.inr f8)), some (.inl v1)] [] h7) fun h9 => some (none, h9)))))))))))) := (zx_unfold zblk xs 97 0 _ rfl _ _ _).trans rfl
/-- MindReaders$Notes.wipe()V -/
noncomputable abbrev r_Notes_wipe (xs : List Int) (p : Nat) (h : zH) : Option zR := zx zblk xs 98 0 [some (.inr (.inr (some p)))] [] h
theorem e_Notes_wipe_0 (xs : List Int) (p : Nat) (h : zH) : zx zblk xs 98 0 [some (.inr (.inr (some p)))] [] h = (zgr h (some p) 1 0 fun f1 => (zck h f1 3 (zcv (zx zblk xs 111 0 [some (.inr (.inr f1))] [] h) fun h2 => some (none, h2)))) := (zx_unfold zblk xs 98 0 _ rfl _ _ _).trans rfl
/-- MindReaders$Notes.copyOf(LMindReaders$Notes;)V -/
noncomputable abbrev r_Notes_copyOf (xs : List Int) (p : Nat) (v1 : Option Nat) (h : zH) : Option zR := zx zblk xs 99 0 [some (.inr (.inr (some p))), some (.inr (.inr v1))] [] h
theorem e_Notes_copyOf_0 (xs : List Int) (p : Nat) (v1 : Option Nat) (h : zH) : zx zblk xs 99 0 [some (.inr (.inr (some p))), some (.inr (.inr v1))] [] h = (zck h (some p) 1 (zcv (zx zblk xs 98 0 [some (.inr (.inr (some p)))] [] h) fun h1 => zx zblk xs 99 6 [some (.inr (.inr (some p))), some (.inr (.inr v1)), some (.inl 0)] [] h1)) := (zx_unfold zblk xs 99 0 _ rfl _ _ _).trans rfl
theorem e_Notes_copyOf_6 (xs : List Int) (p : Nat) (v1 : Option Nat) (v2 : Int) (h : zH) : zx zblk xs 99 6 [some (.inr (.inr (some p))), some (.inr (.inr v1)), some (.inl v2)] [] h = (zck h v1 1 (zci (zx zblk xs 94 0 [some (.inr (.inr v1))] [] h) fun r2 h1 => (if zw r2 ≤ zw v2 then zx zblk xs 99 34 [] [] h1 else (zck h1 v1 1 (zci (zx zblk xs 95 0 [some (.inr (.inr v1)), some (.inl v2)] [] h1) fun r4 h3 => (zck h3 v1 1 (zcr (zx zblk xs 96 0 [some (.inr (.inr v1)), some (.inl v2)] [] h3) fun r6 h5 => (zck h5 (some p) 1 (zcv (zx zblk xs 97 0 [some (.inr (.inr (some p))), some (.inl r4), some (.inr (.inr r6))] [] h5) fun h7 => zx zblk xs 99 6 [some (.inr (.inr (some p))), some (.inr (.inr v1)), some (.inl (v2 + 1))] [] h7))))))))) := (zx_unfold zblk xs 99 6 _ rfl _ _ _).trans rfl
theorem e_Notes_copyOf_34 (xs : List Int)  (h : zH) : zx zblk xs 99 34 [] [] h = some (none, h) := (zx_unfold zblk xs 99 34 _ rfl _ _ _).trans rfl
/-- MindReaders$Readings.leastTwice(LMindReaders$Code;)I -/
noncomputable abbrev r_Readings_leastTwice (xs : List Int) (p : Nat) (v1 : Option Nat) (h : zH) : Option zR := zx zblk xs 101 0 [some (.inr (.inr (some p))), some (.inr (.inr v1))] [] h
theorem e_Readings_leastTwice_0 (xs : List Int) (p : Nat) (v1 : Option Nat) (h : zH) : zx zblk xs 101 0 [some (.inr (.inr (some p))), some (.inr (.inr v1))] [] h = (zpf h (some p) 2 1 (.inl 1000000) fun h1 => (zgr h1 (some p) 2 0 fun f2 => (zck h1 f2 3 (zcv (zx zblk xs 111 0 [some (.inr (.inr f2))] [] h1) fun h3 => zx zblk xs 101 15 [some (.inr (.inr (some p))), some (.inr (.inr v1)), some (.inl 0)] [] h3)))) := (zx_unfold zblk xs 101 0 _ rfl _ _ _).trans rfl
theorem e_Readings_leastTwice_15 (xs : List Int) (p : Nat) (v1 : Option Nat) (v2 : Int) (h : zH) : zx zblk xs 101 15 [some (.inr (.inr (some p))), some (.inr (.inr v1)), some (.inl v2)] [] h = (if zw 80 ≤ zw v2 then zx zblk xs 101 36 [some (.inr (.inr (some p))), some (.inr (.inr v1))] [] h else (zgr h (some p) 2 0 fun f1 => (zck h f1 3 (zcv (zx zblk xs 109 0 [some (.inr (.inr f1)), some (.inl 1000000)] [] h) fun h2 => zx zblk xs 101 15 [some (.inr (.inr (some p))), some (.inr (.inr v1)), some (.inl (v2 + 1))] [] h2)))) := (zx_unfold zblk xs 101 15 _ rfl _ _ _).trans rfl
theorem e_Readings_leastTwice_36 (xs : List Int) (p : Nat) (v1 : Option Nat) (h : zH) : zx zblk xs 101 36 [some (.inr (.inr (some p))), some (.inr (.inr v1))] [] h = zx zblk xs 101 38 [some (.inr (.inr (some p))), some (.inr (.inr v1)), some (.inl 0)] [] h := (zx_unfold zblk xs 101 36 _ rfl _ _ _).trans rfl
theorem e_Readings_leastTwice_38 (xs : List Int) (p : Nat) (v1 : Option Nat) (v2 : Int) (h : zH) : zx zblk xs 101 38 [some (.inr (.inr (some p))), some (.inr (.inr v1)), some (.inl v2)] [] h = (zck h v1 0 (zci (zx zblk xs 83 0 [some (.inr (.inr v1))] [] h) fun r2 h1 => (if zw r2 ≤ zw v2 then zx zblk xs 101 87 [some (.inr (.inr (some p))), some (.inr (.inr v1))] [] h1 else zx zblk xs 101 50 [some (.inr (.inr (some p))), some (.inr (.inr v1)), some (.inl v2), some (.inl (v2 + 1))] [] h1))) := (zx_unfold zblk xs 101 38 _ rfl _ _ _).trans rfl
theorem e_Readings_leastTwice_50 (xs : List Int) (p : Nat) (v1 : Option Nat) (v2 : Int) (v3 : Int) (h : zH) : zx zblk xs 101 50 [some (.inr (.inr (some p))), some (.inr (.inr v1)), some (.inl v2), some (.inl v3)] [] h = (zck h v1 0 (zci (zx zblk xs 83 0 [some (.inr (.inr v1))] [] h) fun r2 h1 => (if zw r2 ≤ zw v3 then zx zblk xs 101 81 [some (.inr (.inr (some p))), some (.inr (.inr v1)), some (.inl v2)] [] h1 else (zck h1 v1 0 (zcr (zx zblk xs 85 0 [some (.inr (.inr v1)), some (.inl v2)] [] h1) fun r4 h3 => (zck h3 r4 3 (zci (zx zblk xs 106 0 [some (.inr (.inr r4))] [] h3) fun r6 h5 => (zck h5 (some p) 2 (zci (zx zblk xs 103 0 [some (.inr (.inr (some p))), some (.inr (.inr v1)), some (.inl v2), some (.inl 0), some (.inl v3), some (.inl r6)] [] h5) fun r8 h7 => zx zblk xs 101 50 [some (.inr (.inr (some p))), some (.inr (.inr v1)), some (.inl v2), some (.inl (v3 + 1))] [] h7))))))))) := (zx_unfold zblk xs 101 50 _ rfl _ _ _).trans rfl
theorem e_Readings_leastTwice_81 (xs : List Int) (p : Nat) (v1 : Option Nat) (v2 : Int) (h : zH) : zx zblk xs 101 81 [some (.inr (.inr (some p))), some (.inr (.inr v1)), some (.inl v2)] [] h = zx zblk xs 101 38 [some (.inr (.inr (some p))), some (.inr (.inr v1)), some (.inl (v2 + 1))] [] h := (zx_unfold zblk xs 101 81 _ rfl _ _ _).trans rfl
theorem e_Readings_leastTwice_87 (xs : List Int) (p : Nat) (v1 : Option Nat) (h : zH) : zx zblk xs 101 87 [some (.inr (.inr (some p))), some (.inr (.inr v1))] [] h = zx zblk xs 101 91 [some (.inr (.inr (some p))), some (.inr (.inr v1)), some (.inl 1), some (.inl 0)] [] h := (zx_unfold zblk xs 101 87 _ rfl _ _ _).trans rfl
theorem e_Readings_leastTwice_91 (xs : List Int) (p : Nat) (v1 : Option Nat) (v2 : Int) (v3 : Int) (h : zH) : zx zblk xs 101 91 [some (.inr (.inr (some p))), some (.inr (.inr v1)), some (.inl v2), some (.inl v3)] [] h = (if zw 80 < zw v3 then zx zblk xs 101 113 [some (.inr (.inr (some p)))] [] h else (if zw v2 = 0 then zx zblk xs 101 113 [some (.inr (.inr (some p)))] [] h else (zck h (some p) 2 (zci (zx zblk xs 102 0 [some (.inr (.inr (some p))), some (.inr (.inr v1))] [] h) fun r2 h1 => zx zblk xs 101 91 [some (.inr (.inr (some p))), some (.inr (.inr v1)), some (.inl r2), some (.inl (v3 + 1))] [] h1)))) := (zx_unfold zblk xs 101 91 _ rfl _ _ _).trans rfl
theorem e_Readings_leastTwice_113 (xs : List Int) (p : Nat) (h : zH) : zx zblk xs 101 113 [some (.inr (.inr (some p)))] [] h = (zgi h (some p) 2 1 fun f1 => (if zw 1000000 ≤ zw f1 then zx zblk xs 101 129 [] [] h else (zgi h (some p) 2 1 fun f2 => zx zblk xs 101 130 [] [.inl f2] h))) := (zx_unfold zblk xs 101 113 _ rfl _ _ _).trans rfl
theorem e_Readings_leastTwice_129 (xs : List Int)  (h : zH) : zx zblk xs 101 129 [] [] h = zx zblk xs 101 130 [] [.inl (-1)] h := (zx_unfold zblk xs 101 129 _ rfl _ _ _).trans rfl
theorem e_Readings_leastTwice_130 (xs : List Int) (s0 : Int) (h : zH) : zx zblk xs 101 130 [] [.inl s0] h = some (some (.inl s0), h) := (zx_unfold zblk xs 101 130 _ rfl _ _ _).trans rfl
/-- MindReaders$Readings.goOn(LMindReaders$Code;)Z -/
noncomputable abbrev r_Readings_goOn (xs : List Int) (p : Nat) (v1 : Option Nat) (h : zH) : Option zR := zx zblk xs 102 0 [some (.inr (.inr (some p))), some (.inr (.inr v1))] [] h
theorem e_Readings_goOn_0 (xs : List Int) (p : Nat) (v1 : Option Nat) (h : zH) : zx zblk xs 102 0 [some (.inr (.inr (some p))), some (.inr (.inr v1))] [] h = zx zblk xs 102 4 [some (.inr (.inr (some p))), some (.inr (.inr v1)), some (.inl 0), some (.inl 0)] [] h := (zx_unfold zblk xs 102 0 _ rfl _ _ _).trans rfl
theorem e_Readings_goOn_4 (xs : List Int) (p : Nat) (v1 : Option Nat) (v2 : Int) (v3 : Int) (h : zH) : zx zblk xs 102 4 [some (.inr (.inr (some p))), some (.inr (.inr v1)), some (.inl v2), some (.inl v3)] [] h = (if zw 80 ≤ zw v3 then zx zblk xs 102 73 [none, none, some (.inl v2)] [] h else (zgr h (some p) 2 0 fun f1 => (zck h f1 3 (zci (zx zblk xs 107 0 [some (.inr (.inr f1)), some (.inl v3)] [] h) fun r3 h2 => zx zblk xs 102 23 [some (.inr (.inr (some p))), some (.inr (.inr v1)), some (.inl v2), some (.inl v3), some (.inl r3), some (.inl 0)] [] h2)))) := (zx_unfold zblk xs 102 4 _ rfl _ _ _).trans rfl
theorem e_Readings_goOn_23 (xs : List Int) (p : Nat) (v1 : Option Nat) (v2 : Int) (v3 : Int) (v4 : Int) (v5 : Int) (h : zH) : zx zblk xs 102 23 [some (.inr (.inr (some p))), some (.inr (.inr v1)), some (.inl v2), some (.inl v3), some (.inl v4), some (.inl v5)] [] h = (zck h v1 0 (zci (zx zblk xs 83 0 [some (.inr (.inr v1))] [] h) fun r2 h1 => (if zw r2 ≤ zw v5 then zx zblk xs 102 67 [some (.inr (.inr (some p))), some (.inr (.inr v1)), some (.inl v2), some (.inl v3)] [] h1 else (if zw 1000000 ≤ zw v4 then zx zblk xs 102 67 [some (.inr (.inr (some p))), some (.inr (.inr v1)), some (.inl v2), some (.inl v3)] [] h1 else (if zw 10 = 0 then none else (if zw 10 = 0 then none else (zck h1 (some p) 2 (zci (zx zblk xs 103 0 [some (.inr (.inr (some p))), some (.inr (.inr v1)), some (.inl ((zw v3).tdiv (zw 10))), some (.inl ((zw v3).tmod (zw 10))), some (.inl v5), some (.inl v4)] [] h1) fun r4 h3 => (if zw r4 = 0 then zx zblk xs 102 61 [some (.inr (.inr (some p))), some (.inr (.inr v1)), some (.inl v2), some (.inl v3), some (.inl v4), some (.inl v5)] [] h3 else zx zblk xs 102 61 [some (.inr (.inr (some p))), some (.inr (.inr v1)), some (.inl 1), some (.inl v3), some (.inl v4), some (.inl v5)] [] h3))))))))) := (zx_unfold zblk xs 102 23 _ rfl _ _ _).trans rfl
theorem e_Readings_goOn_61 (xs : List Int) (p : Nat) (v1 : Option Nat) (v2 : Int) (v3 : Int) (v4 : Int) (v5 : Int) (h : zH) : zx zblk xs 102 61 [some (.inr (.inr (some p))), some (.inr (.inr v1)), some (.inl v2), some (.inl v3), some (.inl v4), some (.inl v5)] [] h = zx zblk xs 102 23 [some (.inr (.inr (some p))), some (.inr (.inr v1)), some (.inl v2), some (.inl v3), some (.inl v4), some (.inl (v5 + 1))] [] h := (zx_unfold zblk xs 102 61 _ rfl _ _ _).trans rfl
theorem e_Readings_goOn_67 (xs : List Int) (p : Nat) (v1 : Option Nat) (v2 : Int) (v3 : Int) (h : zH) : zx zblk xs 102 67 [some (.inr (.inr (some p))), some (.inr (.inr v1)), some (.inl v2), some (.inl v3)] [] h = zx zblk xs 102 4 [some (.inr (.inr (some p))), some (.inr (.inr v1)), some (.inl v2), some (.inl (v3 + 1))] [] h := (zx_unfold zblk xs 102 67 _ rfl _ _ _).trans rfl
theorem e_Readings_goOn_73 (xs : List Int) (v2 : Int) (h : zH) : zx zblk xs 102 73 [none, none, some (.inl v2)] [] h = (if v2 = 0 ∨ v2 = 1 then some (some (.inl v2), h) else none) := (zx_unfold zblk xs 102 73 _ rfl _ _ _).trans rfl
/-- MindReaders$Readings.meet(LMindReaders$Code;IIII)Z -/
noncomputable abbrev r_Readings_meet (xs : List Int) (p : Nat) (v1 : Option Nat) (v2 : Int) (v3 : Int) (v4 : Int) (v5 : Int) (h : zH) : Option zR := zx zblk xs 103 0 [some (.inr (.inr (some p))), some (.inr (.inr v1)), some (.inl v2), some (.inl v3), some (.inl v4), some (.inl v5)] [] h
theorem e_Readings_meet_0 (xs : List Int) (p : Nat) (v1 : Option Nat) (v2 : Int) (v3 : Int) (v4 : Int) (v5 : Int) (h : zH) : zx zblk xs 103 0 [some (.inr (.inr (some p))), some (.inr (.inr v1)), some (.inl v2), some (.inl v3), some (.inl v4), some (.inl v5)] [] h = (zck h v1 0 (zcr (zx zblk xs 85 0 [some (.inr (.inr v1)), some (.inl v2)] [] h) fun r2 h1 => (zck h1 v1 0 (zcr (zx zblk xs 85 0 [some (.inr (.inr v1)), some (.inl v4)] [] h1) fun r4 h3 => (zck h3 r2 3 (zci (zx zblk xs 106 0 [some (.inr (.inr r2))] [] h3) fun r6 h5 => (if zw (r6 - v3) ≤ 0 then zx zblk xs 103 37 [] [] h5 else (zck h5 r4 3 (zci (zx zblk xs 106 0 [some (.inr (.inr r4))] [] h5) fun r8 h7 => (if zw r8 ≠ 0 then zx zblk xs 103 39 [some (.inr (.inr (some p))), none, some (.inl v2), some (.inl v3), some (.inl v4), some (.inl v5), some (.inr (.inr r2)), some (.inr (.inr r4)), some (.inl (r6 - v3))] [] h7 else zx zblk xs 103 37 [] [] h7)))))))))) := (zx_unfold zblk xs 103 0 _ rfl _ _ _).trans rfl
theorem e_Readings_meet_37 (xs : List Int)  (h : zH) : zx zblk xs 103 37 [] [] h = (if 0 = 0 ∨ 0 = 1 then some (some (.inl 0), h) else none) := (zx_unfold zblk xs 103 37 _ rfl _ _ _).trans rfl
theorem e_Readings_meet_39 (xs : List Int) (p : Nat) (v2 : Int) (v3 : Int) (v4 : Int) (v5 : Int) (v6 : Option Nat) (v7 : Option Nat) (v8 : Int) (h : zH) : zx zblk xs 103 39 [some (.inr (.inr (some p))), none, some (.inl v2), some (.inl v3), some (.inl v4), some (.inl v5), some (.inr (.inr v6)), some (.inr (.inr v7)), some (.inl v8)] [] h = zx zblk xs 103 42 [some (.inr (.inr (some p))), none, some (.inl v2), some (.inl v3), some (.inl v4), some (.inl v5), some (.inr (.inr v6)), some (.inr (.inr v7)), some (.inl v8), some (.inl 0)] [] h := (zx_unfold zblk xs 103 39 _ rfl _ _ _).trans rfl
theorem e_Readings_meet_42 (xs : List Int) (p : Nat) (v2 : Int) (v3 : Int) (v4 : Int) (v5 : Int) (v6 : Option Nat) (v7 : Option Nat) (v8 : Int) (v9 : Int) (h : zH) : zx zblk xs 103 42 [some (.inr (.inr (some p))), none, some (.inl v2), some (.inl v3), some (.inl v4), some (.inl v5), some (.inr (.inr v6)), some (.inr (.inr v7)), some (.inl v8), some (.inl v9)] [] h = (if zw v8 ≤ zw v9 then zx zblk xs 103 86 [some (.inr (.inr (some p))), none, some (.inl v2), some (.inl v3), some (.inl v4), some (.inl v5), none, some (.inr (.inr v7)), some (.inl v8)] [] h else (zck h v7 3 (zci (zx zblk xs 106 0 [some (.inr (.inr v7))] [] h) fun r2 h1 => (if zw r2 ≤ zw v9 then zx zblk xs 103 86 [some (.inr (.inr (some p))), none, some (.inl v2), some (.inl v3), some (.inl v4), some (.inl v5), none, some (.inr (.inr v7)), some (.inl v8)] [] h1 else (zck h1 v6 3 (zci (zx zblk xs 107 0 [some (.inr (.inr v6)), some (.inl (v3 + v9))] [] h1) fun r4 h3 => (zck h3 v7 3 (zci (zx zblk xs 107 0 [some (.inr (.inr v7)), some (.inl v9)] [] h3) fun r6 h5 => (if zw r4 = zw r6 then zx zblk xs 103 80 [some (.inr (.inr (some p))), none, some (.inl v2), some (.inl v3), some (.inl v4), some (.inl v5), some (.inr (.inr v6)), some (.inr (.inr v7)), some (.inl v8), some (.inl v9)] [] h5 else (if 0 = 0 ∨ 0 = 1 then some (some (.inl 0), h5) else none)))))))))) := (zx_unfold zblk xs 103 42 _ rfl _ _ _).trans rfl
theorem e_Readings_meet_80 (xs : List Int) (p : Nat) (v2 : Int) (v3 : Int) (v4 : Int) (v5 : Int) (v6 : Option Nat) (v7 : Option Nat) (v8 : Int) (v9 : Int) (h : zH) : zx zblk xs 103 80 [some (.inr (.inr (some p))), none, some (.inl v2), some (.inl v3), some (.inl v4), some (.inl v5), some (.inr (.inr v6)), some (.inr (.inr v7)), some (.inl v8), some (.inl v9)] [] h = zx zblk xs 103 42 [some (.inr (.inr (some p))), none, some (.inl v2), some (.inl v3), some (.inl v4), some (.inl v5), some (.inr (.inr v6)), some (.inr (.inr v7)), some (.inl v8), some (.inl (v9 + 1))] [] h := (zx_unfold zblk xs 103 80 _ rfl _ _ _).trans rfl
theorem e_Readings_meet_86 (xs : List Int) (p : Nat) (v2 : Int) (v3 : Int) (v4 : Int) (v5 : Int) (v7 : Option Nat) (v8 : Int) (h : zH) : zx zblk xs 103 86 [some (.inr (.inr (some p))), none, some (.inl v2), some (.inl v3), some (.inl v4), some (.inl v5), none, some (.inr (.inr v7)), some (.inl v8)] [] h = (zck h v7 3 (zci (zx zblk xs 106 0 [some (.inr (.inr v7))] [] h) fun r2 h1 => (if zw v8 ≠ zw r2 then zx zblk xs 103 111 [some (.inr (.inr (some p))), none, some (.inl v2), some (.inl v3), some (.inl v4), some (.inl v5), none, some (.inr (.inr v7)), some (.inl v8)] [] h1 else (zgi h1 (some p) 2 1 fun f3 => (zpf h1 (some p) 2 1 (.inl (if zw v5 < zw f3 then v5 else f3)) fun h4 => (if 0 = 0 ∨ 0 = 1 then some (some (.inl 0), h4) else none)))))) := (zx_unfold zblk xs 103 86 _ rfl _ _ _).trans rfl
theorem e_Readings_meet_111 (xs : List Int) (p : Nat) (v2 : Int) (v3 : Int) (v4 : Int) (v5 : Int) (v7 : Option Nat) (v8 : Int) (h : zH) : zx zblk xs 103 111 [some (.inr (.inr (some p))), none, some (.inl v2), some (.inl v3), some (.inl v4), some (.inl v5), none, some (.inr (.inr v7)), some (.inl v8)] [] h = (zck h v7 3 (zci (zx zblk xs 106 0 [some (.inr (.inr v7))] [] h) fun r2 h1 => (if zw v8 ≤ zw r2 then zx zblk xs 103 136 [some (.inr (.inr (some p))), none, none, none, some (.inl v4), some (.inl v5), none, some (.inr (.inr v7)), some (.inl v8)] [] h1 else (zck h1 v7 3 (zci (zx zblk xs 106 0 [some (.inr (.inr v7))] [] h1) fun r4 h3 => (zck h3 (some p) 2 (zci (zx zblk xs 104 0 [some (.inr (.inr (some p))), some (.inl v2), some (.inl (v3 + r4)), some (.inl v5)] [] h3) fun r6 h5 => (if r6 = 0 ∨ r6 = 1 then some (some (.inl r6), h5) else none)))))))) := (zx_unfold zblk xs 103 111 _ rfl _ _ _).trans rfl
theorem e_Readings_meet_136 (xs : List Int) (p : Nat) (v4 : Int) (v5 : Int) (v7 : Option Nat) (v8 : Int) (h : zH) : zx zblk xs 103 136 [some (.inr (.inr (some p))), none, none, none, some (.inl v4), some (.inl v5), none, some (.inr (.inr v7)), some (.inl v8)] [] h = (zck h v7 3 (zci (zx zblk xs 106 0 [some (.inr (.inr v7))] [] h) fun r2 h1 => (zck h1 (some p) 2 (zci (zx zblk xs 104 0 [some (.inr (.inr (some p))), some (.inl v4), some (.inl v8), some (.inl ((v5 + r2) - v8))] [] h1) fun r4 h3 => (if r4 = 0 ∨ r4 = 1 then some (some (.inl r4), h3) else none))))) := (zx_unfold zblk xs 103 136 _ rfl _ _ _).trans rfl
/-- MindReaders$Readings.comeTo(III)Z -/
noncomputable abbrev r_Readings_comeTo (xs : List Int) (p : Nat) (v1 : Int) (v2 : Int) (v3 : Int) (h : zH) : Option zR := zx zblk xs 104 0 [some (.inr (.inr (some p))), some (.inl v1), some (.inl v2), some (.inl v3)] [] h
theorem e_Readings_comeTo_0 (xs : List Int) (p : Nat) (v1 : Int) (v2 : Int) (v3 : Int) (h : zH) : zx zblk xs 104 0 [some (.inr (.inr (some p))), some (.inl v1), some (.inl v2), some (.inl v3)] [] h = (zgr h (some p) 2 0 fun f1 => (zck h f1 3 (zci (zx zblk xs 107 0 [some (.inr (.inr f1)), some (.inl ((v1 * 10) + v2))] [] h) fun r3 h2 => (if zw v3 < zw r3 then zx zblk xs 104 23 [some (.inr (.inr (some p))), none, none, some (.inl v3), some (.inl ((v1 * 10) + v2))] [] h2 else (if 0 = 0 ∨ 0 = 1 then some (some (.inl 0), h2) else none))))) := (zx_unfold zblk xs 104 0 _ rfl _ _ _).trans rfl
theorem e_Readings_comeTo_23 (xs : List Int) (p : Nat) (v3 : Int) (v4 : Int) (h : zH) : zx zblk xs 104 23 [some (.inr (.inr (some p))), none, none, some (.inl v3), some (.inl v4)] [] h = (zgr h (some p) 2 0 fun f1 => (zck h f1 3 (zcv (zx zblk xs 108 0 [some (.inr (.inr f1)), some (.inl v4), some (.inl v3)] [] h) fun h2 => (if 1 = 0 ∨ 1 = 1 then some (some (.inl 1), h2) else none)))) := (zx_unfold zblk xs 104 23 _ rfl _ _ _).trans rfl
/-- MindReaders$Row.size()I -/
noncomputable abbrev r_Row_size (xs : List Int) (p : Nat) (h : zH) : Option zR := zx zblk xs 106 0 [some (.inr (.inr (some p)))] [] h
theorem e_Row_size_0 (xs : List Int) (p : Nat) (h : zH) : zx zblk xs 106 0 [some (.inr (.inr (some p)))] [] h = (zgi h (some p) 3 1 fun f1 => some (some (.inl f1), h)) := (zx_unfold zblk xs 106 0 _ rfl _ _ _).trans rfl
/-- MindReaders$Row.at(I)I -/
noncomputable abbrev r_Row_at (xs : List Int) (p : Nat) (v1 : Int) (h : zH) : Option zR := zx zblk xs 107 0 [some (.inr (.inr (some p))), some (.inl v1)] [] h
theorem e_Row_at_0 (xs : List Int) (p : Nat) (v1 : Int) (h : zH) : zx zblk xs 107 0 [some (.inr (.inr (some p))), some (.inl v1)] [] h = (if zw v1 < 0 then zx zblk xs 107 30 [] [] h else (zgi h (some p) 3 1 fun f1 => (if zw f1 ≤ zw v1 then zx zblk xs 107 30 [] [] h else (zgr h (some p) 3 0 fun f2 => (zln xs h f2 fun n3 => (if zw n3 ≤ zw v1 then zx zblk xs 107 30 [] [] h else (zgr h (some p) 3 0 fun f4 => (zai xs h f4 v1 fun a5 => zx zblk xs 107 31 [] [.inl a5] h)))))))) := (zx_unfold zblk xs 107 0 _ rfl _ _ _).trans rfl
theorem e_Row_at_30 (xs : List Int)  (h : zH) : zx zblk xs 107 30 [] [] h = zx zblk xs 107 31 [] [.inl (-1)] h := (zx_unfold zblk xs 107 30 _ rfl _ _ _).trans rfl
theorem e_Row_at_31 (xs : List Int) (s0 : Int) (h : zH) : zx zblk xs 107 31 [] [.inl s0] h = some (some (.inl s0), h) := (zx_unfold zblk xs 107 31 _ rfl _ _ _).trans rfl
/-- MindReaders$Row.set(II)V -/
noncomputable abbrev r_Row_set (xs : List Int) (p : Nat) (v1 : Int) (v2 : Int) (h : zH) : Option zR := zx zblk xs 108 0 [some (.inr (.inr (some p))), some (.inl v1), some (.inl v2)] [] h
theorem e_Row_set_0 (xs : List Int) (p : Nat) (v1 : Int) (v2 : Int) (h : zH) : zx zblk xs 108 0 [some (.inr (.inr (some p))), some (.inl v1), some (.inl v2)] [] h = (if zw v1 < 0 then zx zblk xs 108 28 [] [] h else (zgi h (some p) 3 1 fun f1 => (if zw f1 ≤ zw v1 then zx zblk xs 108 28 [] [] h else (zgr h (some p) 3 0 fun f2 => (zln xs h f2 fun n3 => (if zw n3 ≤ zw v1 then zx zblk xs 108 28 [] [] h else (zgr h (some p) 3 0 fun f4 => (zst h f4 100 v1 (.inl v2) fun h5 => zx zblk xs 108 28 [] [] h5)))))))) := (zx_unfold zblk xs 108 0 _ rfl _ _ _).trans rfl
theorem e_Row_set_28 (xs : List Int)  (h : zH) : zx zblk xs 108 28 [] [] h = some (none, h) := (zx_unfold zblk xs 108 28 _ rfl _ _ _).trans rfl
/-- MindReaders$Row.add(I)V -/
noncomputable abbrev r_Row_add (xs : List Int) (p : Nat) (v1 : Int) (h : zH) : Option zR := zx zblk xs 109 0 [some (.inr (.inr (some p))), some (.inl v1)] [] h
theorem e_Row_add_0 (xs : List Int) (p : Nat) (v1 : Int) (h : zH) : zx zblk xs 109 0 [some (.inr (.inr (some p))), some (.inl v1)] [] h = (zgi h (some p) 3 1 fun f1 => (if zw f1 < 0 then zx zblk xs 109 39 [] [] h else (zgi h (some p) 3 1 fun f2 => (zgr h (some p) 3 0 fun f3 => (zln xs h f3 fun n4 => (if zw n4 ≤ zw f2 then zx zblk xs 109 39 [] [] h else (zgr h (some p) 3 0 fun f5 => (zgi h (some p) 3 1 fun f6 => (zst h f5 100 f6 (.inl v1) fun h7 => (zgi h7 (some p) 3 1 fun f8 => (zpf h7 (some p) 3 1 (.inl (f8 + 1)) fun h9 => zx zblk xs 109 39 [] [] h9))))))))))) := (zx_unfold zblk xs 109 0 _ rfl _ _ _).trans rfl
theorem e_Row_add_39 (xs : List Int)  (h : zH) : zx zblk xs 109 39 [] [] h = some (none, h) := (zx_unfold zblk xs 109 39 _ rfl _ _ _).trans rfl
/-- MindReaders$Row.dropLast()V -/
noncomputable abbrev r_Row_dropLast (xs : List Int) (p : Nat) (h : zH) : Option zR := zx zblk xs 110 0 [some (.inr (.inr (some p)))] [] h
theorem e_Row_dropLast_0 (xs : List Int) (p : Nat) (h : zH) : zx zblk xs 110 0 [some (.inr (.inr (some p)))] [] h = (zgi h (some p) 3 1 fun f1 => (if zw f1 ≤ 0 then zx zblk xs 110 17 [] [] h else (zgi h (some p) 3 1 fun f2 => (zpf h (some p) 3 1 (.inl (f2 - 1)) fun h3 => zx zblk xs 110 17 [] [] h3)))) := (zx_unfold zblk xs 110 0 _ rfl _ _ _).trans rfl
theorem e_Row_dropLast_17 (xs : List Int)  (h : zH) : zx zblk xs 110 17 [] [] h = some (none, h) := (zx_unfold zblk xs 110 17 _ rfl _ _ _).trans rfl
/-- MindReaders$Row.wipe()V -/
noncomputable abbrev r_Row_wipe (xs : List Int) (p : Nat) (h : zH) : Option zR := zx zblk xs 111 0 [some (.inr (.inr (some p)))] [] h
theorem e_Row_wipe_0 (xs : List Int) (p : Nat) (h : zH) : zx zblk xs 111 0 [some (.inr (.inr (some p)))] [] h = (zpf h (some p) 3 1 (.inl 0) fun h1 => some (none, h1)) := (zx_unfold zblk xs 111 0 _ rfl _ _ _).trans rfl
/-- MindReaders$Row.copyOf(LMindReaders$Row;)V -/
noncomputable abbrev r_Row_copyOf (xs : List Int) (p : Nat) (v1 : Option Nat) (h : zH) : Option zR := zx zblk xs 112 0 [some (.inr (.inr (some p))), some (.inr (.inr v1))] [] h
theorem e_Row_copyOf_0 (xs : List Int) (p : Nat) (v1 : Option Nat) (h : zH) : zx zblk xs 112 0 [some (.inr (.inr (some p))), some (.inr (.inr v1))] [] h = (zck h (some p) 3 (zcv (zx zblk xs 111 0 [some (.inr (.inr (some p)))] [] h) fun h1 => zx zblk xs 112 6 [some (.inr (.inr (some p))), some (.inr (.inr v1)), some (.inl 0)] [] h1)) := (zx_unfold zblk xs 112 0 _ rfl _ _ _).trans rfl
theorem e_Row_copyOf_6 (xs : List Int) (p : Nat) (v1 : Option Nat) (v2 : Int) (h : zH) : zx zblk xs 112 6 [some (.inr (.inr (some p))), some (.inr (.inr v1)), some (.inl v2)] [] h = (zck h v1 3 (zci (zx zblk xs 106 0 [some (.inr (.inr v1))] [] h) fun r2 h1 => (if zw r2 ≤ zw v2 then zx zblk xs 112 29 [] [] h1 else (zck h1 v1 3 (zci (zx zblk xs 107 0 [some (.inr (.inr v1)), some (.inl v2)] [] h1) fun r4 h3 => (zck h3 (some p) 3 (zcv (zx zblk xs 109 0 [some (.inr (.inr (some p))), some (.inl r4)] [] h3) fun h5 => zx zblk xs 112 6 [some (.inr (.inr (some p))), some (.inr (.inr v1)), some (.inl (v2 + 1))] [] h5))))))) := (zx_unfold zblk xs 112 6 _ rfl _ _ _).trans rfl
theorem e_Row_copyOf_29 (xs : List Int)  (h : zH) : zx zblk xs 112 29 [] [] h = some (none, h) := (zx_unfold zblk xs 112 29 _ rfl _ _ _).trans rfl
/-- MindReaders$Row.isLike(LMindReaders$Row;)Z -/
noncomputable abbrev r_Row_isLike (xs : List Int) (p : Nat) (v1 : Option Nat) (h : zH) : Option zR := zx zblk xs 113 0 [some (.inr (.inr (some p))), some (.inr (.inr v1))] [] h
theorem e_Row_isLike_0 (xs : List Int) (p : Nat) (v1 : Option Nat) (h : zH) : zx zblk xs 113 0 [some (.inr (.inr (some p))), some (.inr (.inr v1))] [] h = (zgi h (some p) 3 1 fun f1 => (zck h v1 3 (zci (zx zblk xs 106 0 [some (.inr (.inr v1))] [] h) fun r3 h2 => (if zw f1 ≠ zw r3 then zx zblk xs 113 23 [] [] h2 else (zck h2 (some p) 3 (zci (zx zblk xs 114 0 [some (.inr (.inr (some p))), some (.inr (.inr v1))] [] h2) fun r5 h4 => (if zw r5 = 0 then zx zblk xs 113 23 [] [] h4 else zx zblk xs 113 24 [] [.inl 1] h4))))))) := (zx_unfold zblk xs 113 0 _ rfl _ _ _).trans rfl
theorem e_Row_isLike_23 (xs : List Int)  (h : zH) : zx zblk xs 113 23 [] [] h = zx zblk xs 113 24 [] [.inl 0] h := (zx_unfold zblk xs 113 23 _ rfl _ _ _).trans rfl
theorem e_Row_isLike_24 (xs : List Int) (s0 : Int) (h : zH) : zx zblk xs 113 24 [] [.inl s0] h = (if s0 = 0 ∨ s0 = 1 then some (some (.inl s0), h) else none) := (zx_unfold zblk xs 113 24 _ rfl _ _ _).trans rfl
/-- MindReaders$Row.isStartOf(LMindReaders$Row;)Z -/
noncomputable abbrev r_Row_isStartOf (xs : List Int) (p : Nat) (v1 : Option Nat) (h : zH) : Option zR := zx zblk xs 114 0 [some (.inr (.inr (some p))), some (.inr (.inr v1))] [] h
theorem e_Row_isStartOf_0 (xs : List Int) (p : Nat) (v1 : Option Nat) (h : zH) : zx zblk xs 114 0 [some (.inr (.inr (some p))), some (.inr (.inr v1))] [] h = zx zblk xs 114 2 [some (.inr (.inr (some p))), some (.inr (.inr v1)), some (.inl 0)] [] h := (zx_unfold zblk xs 114 0 _ rfl _ _ _).trans rfl
theorem e_Row_isStartOf_2 (xs : List Int) (p : Nat) (v1 : Option Nat) (v2 : Int) (h : zH) : zx zblk xs 114 2 [some (.inr (.inr (some p))), some (.inr (.inr v1)), some (.inl v2)] [] h = (zgi h (some p) 3 1 fun f1 => (if zw f1 ≤ zw v2 then zx zblk xs 114 31 [] [] h else (zck h (some p) 3 (zci (zx zblk xs 107 0 [some (.inr (.inr (some p))), some (.inl v2)] [] h) fun r3 h2 => (zck h2 v1 3 (zci (zx zblk xs 107 0 [some (.inr (.inr v1)), some (.inl v2)] [] h2) fun r5 h4 => (if zw r3 = zw r5 then zx zblk xs 114 25 [some (.inr (.inr (some p))), some (.inr (.inr v1)), some (.inl v2)] [] h4 else (if 0 = 0 ∨ 0 = 1 then some (some (.inl 0), h4) else none)))))))) := (zx_unfold zblk xs 114 2 _ rfl _ _ _).trans rfl
theorem e_Row_isStartOf_25 (xs : List Int) (p : Nat) (v1 : Option Nat) (v2 : Int) (h : zH) : zx zblk xs 114 25 [some (.inr (.inr (some p))), some (.inr (.inr v1)), some (.inl v2)] [] h = zx zblk xs 114 2 [some (.inr (.inr (some p))), some (.inr (.inr v1)), some (.inl (v2 + 1))] [] h := (zx_unfold zblk xs 114 25 _ rfl _ _ _).trans rfl
theorem e_Row_isStartOf_31 (xs : List Int)  (h : zH) : zx zblk xs 114 31 [] [] h = (if 1 = 0 ∨ 1 = 1 then some (some (.inl 1), h) else none) := (zx_unfold zblk xs 114 31 _ rfl _ _ _).trans rfl
/-- MindReaders$Row.placesApart(LMindReaders$Row;)I -/
noncomputable abbrev r_Row_placesApart (xs : List Int) (p : Nat) (v1 : Option Nat) (h : zH) : Option zR := zx zblk xs 115 0 [some (.inr (.inr (some p))), some (.inr (.inr v1))] [] h
theorem e_Row_placesApart_0 (xs : List Int) (p : Nat) (v1 : Option Nat) (h : zH) : zx zblk xs 115 0 [some (.inr (.inr (some p))), some (.inr (.inr v1))] [] h = zx zblk xs 115 4 [some (.inr (.inr (some p))), some (.inr (.inr v1)), some (.inl 0), some (.inl 0)] [] h := (zx_unfold zblk xs 115 0 _ rfl _ _ _).trans rfl
theorem e_Row_placesApart_4 (xs : List Int) (p : Nat) (v1 : Option Nat) (v2 : Int) (v3 : Int) (h : zH) : zx zblk xs 115 4 [some (.inr (.inr (some p))), some (.inr (.inr v1)), some (.inl v2), some (.inl v3)] [] h = (zgi h (some p) 3 1 fun f1 => (if zw f1 ≤ zw v3 then zx zblk xs 115 34 [none, none, some (.inl v2)] [] h else (zck h (some p) 3 (zci (zx zblk xs 107 0 [some (.inr (.inr (some p))), some (.inl v3)] [] h) fun r3 h2 => (zck h2 v1 3 (zci (zx zblk xs 107 0 [some (.inr (.inr v1)), some (.inl v3)] [] h2) fun r5 h4 => (if zw r3 = zw r5 then zx zblk xs 115 28 [some (.inr (.inr (some p))), some (.inr (.inr v1)), some (.inl v2), some (.inl v3)] [] h4 else zx zblk xs 115 28 [some (.inr (.inr (some p))), some (.inr (.inr v1)), some (.inl (v2 + 1)), some (.inl v3)] [] h4))))))) := (zx_unfold zblk xs 115 4 _ rfl _ _ _).trans rfl
theorem e_Row_placesApart_28 (xs : List Int) (p : Nat) (v1 : Option Nat) (v2 : Int) (v3 : Int) (h : zH) : zx zblk xs 115 28 [some (.inr (.inr (some p))), some (.inr (.inr v1)), some (.inl v2), some (.inl v3)] [] h = zx zblk xs 115 4 [some (.inr (.inr (some p))), some (.inr (.inr v1)), some (.inl v2), some (.inl (v3 + 1))] [] h := (zx_unfold zblk xs 115 28 _ rfl _ _ _).trans rfl
theorem e_Row_placesApart_34 (xs : List Int) (v2 : Int) (h : zH) : zx zblk xs 115 34 [none, none, some (.inl v2)] [] h = some (some (.inl v2), h) := (zx_unfold zblk xs 115 34 _ rfl _ _ _).trans rfl
/-- MindReaders$Row.isBelow(I)Z -/
noncomputable abbrev r_Row_isBelow (xs : List Int) (p : Nat) (v1 : Int) (h : zH) : Option zR := zx zblk xs 116 0 [some (.inr (.inr (some p))), some (.inl v1)] [] h
theorem e_Row_isBelow_0 (xs : List Int) (p : Nat) (v1 : Int) (h : zH) : zx zblk xs 116 0 [some (.inr (.inr (some p))), some (.inl v1)] [] h = zx zblk xs 116 2 [some (.inr (.inr (some p))), some (.inl v1), some (.inl 0)] [] h := (zx_unfold zblk xs 116 0 _ rfl _ _ _).trans rfl
theorem e_Row_isBelow_2 (xs : List Int) (p : Nat) (v1 : Int) (v2 : Int) (h : zH) : zx zblk xs 116 2 [some (.inr (.inr (some p))), some (.inl v1), some (.inl v2)] [] h = (zgi h (some p) 3 1 fun f1 => (if zw f1 ≤ zw v2 then zx zblk xs 116 27 [] [] h else (zck h (some p) 3 (zci (zx zblk xs 107 0 [some (.inr (.inr (some p))), some (.inl v2)] [] h) fun r3 h2 => (if zw r3 < zw v1 then zx zblk xs 116 21 [some (.inr (.inr (some p))), some (.inl v1), some (.inl v2)] [] h2 else (if 0 = 0 ∨ 0 = 1 then some (some (.inl 0), h2) else none)))))) := (zx_unfold zblk xs 116 2 _ rfl _ _ _).trans rfl
theorem e_Row_isBelow_21 (xs : List Int) (p : Nat) (v1 : Int) (v2 : Int) (h : zH) : zx zblk xs 116 21 [some (.inr (.inr (some p))), some (.inl v1), some (.inl v2)] [] h = zx zblk xs 116 2 [some (.inr (.inr (some p))), some (.inl v1), some (.inl (v2 + 1))] [] h := (zx_unfold zblk xs 116 21 _ rfl _ _ _).trans rfl
theorem e_Row_isBelow_27 (xs : List Int)  (h : zH) : zx zblk xs 116 27 [] [] h = (if 1 = 0 ∨ 1 = 1 then some (some (.inl 1), h) else none) := (zx_unfold zblk xs 116 27 _ rfl _ _ _).trans rfl
/-- MindReaders$Row.sumOf(I)I -/
noncomputable abbrev r_Row_sumOf (xs : List Int) (p : Nat) (v1 : Int) (h : zH) : Option zR := zx zblk xs 117 0 [some (.inr (.inr (some p))), some (.inl v1)] [] h
theorem e_Row_sumOf_0 (xs : List Int) (p : Nat) (v1 : Int) (h : zH) : zx zblk xs 117 0 [some (.inr (.inr (some p))), some (.inl v1)] [] h = zx zblk xs 117 4 [some (.inr (.inr (some p))), some (.inl v1), some (.inl 0), some (.inl 0)] [] h := (zx_unfold zblk xs 117 0 _ rfl _ _ _).trans rfl
theorem e_Row_sumOf_4 (xs : List Int) (p : Nat) (v1 : Int) (v2 : Int) (v3 : Int) (h : zH) : zx zblk xs 117 4 [some (.inr (.inr (some p))), some (.inl v1), some (.inl v2), some (.inl v3)] [] h = (if zw v1 ≤ zw v3 then zx zblk xs 117 31 [none, none, some (.inl v2)] [] h else (zgi h (some p) 3 1 fun f1 => (if zw f1 ≤ zw v3 then zx zblk xs 117 31 [none, none, some (.inl v2)] [] h else (zck h (some p) 3 (zci (zx zblk xs 107 0 [some (.inr (.inr (some p))), some (.inl v3)] [] h) fun r3 h2 => zx zblk xs 117 4 [some (.inr (.inr (some p))), some (.inl v1), some (.inl (v2 + r3)), some (.inl (v3 + 1))] [] h2))))) := (zx_unfold zblk xs 117 4 _ rfl _ _ _).trans rfl
theorem e_Row_sumOf_31 (xs : List Int) (v2 : Int) (h : zH) : zx zblk xs 117 31 [none, none, some (.inl v2)] [] h = some (some (.inl v2), h) := (zx_unfold zblk xs 117 31 _ rfl _ _ _).trans rfl
/-- MindReaders$Row.takeLeast()I -/
noncomputable abbrev r_Row_takeLeast (xs : List Int) (p : Nat) (h : zH) : Option zR := zx zblk xs 118 0 [some (.inr (.inr (some p)))] [] h
theorem e_Row_takeLeast_0 (xs : List Int) (p : Nat) (h : zH) : zx zblk xs 118 0 [some (.inr (.inr (some p)))] [] h = (zgi h (some p) 3 1 fun f1 => (if 0 < zw f1 then zx zblk xs 118 9 [some (.inr (.inr (some p)))] [] h else some (some (.inl 0), h))) := (zx_unfold zblk xs 118 0 _ rfl _ _ _).trans rfl
theorem e_Row_takeLeast_9 (xs : List Int) (p : Nat) (h : zH) : zx zblk xs 118 9 [some (.inr (.inr (some p)))] [] h = zx zblk xs 118 13 [some (.inr (.inr (some p))), some (.inl 0), some (.inl 1)] [] h := (zx_unfold zblk xs 118 9 _ rfl _ _ _).trans rfl
theorem e_Row_takeLeast_13 (xs : List Int) (p : Nat) (v1 : Int) (v2 : Int) (h : zH) : zx zblk xs 118 13 [some (.inr (.inr (some p))), some (.inl v1), some (.inl v2)] [] h = (zgi h (some p) 3 1 fun f1 => (if zw f1 ≤ zw v2 then zx zblk xs 118 42 [some (.inr (.inr (some p))), some (.inl v1)] [] h else (zck h (some p) 3 (zci (zx zblk xs 107 0 [some (.inr (.inr (some p))), some (.inl v2)] [] h) fun r3 h2 => (zck h2 (some p) 3 (zci (zx zblk xs 107 0 [some (.inr (.inr (some p))), some (.inl v1)] [] h2) fun r5 h4 => (if zw r5 ≤ zw r3 then zx zblk xs 118 36 [some (.inr (.inr (some p))), some (.inl v1), some (.inl v2)] [] h4 else zx zblk xs 118 36 [some (.inr (.inr (some p))), some (.inl v2), some (.inl v2)] [] h4))))))) := (zx_unfold zblk xs 118 13 _ rfl _ _ _).trans rfl
theorem e_Row_takeLeast_36 (xs : List Int) (p : Nat) (v1 : Int) (v2 : Int) (h : zH) : zx zblk xs 118 36 [some (.inr (.inr (some p))), some (.inl v1), some (.inl v2)] [] h = zx zblk xs 118 13 [some (.inr (.inr (some p))), some (.inl v1), some (.inl (v2 + 1))] [] h := (zx_unfold zblk xs 118 36 _ rfl _ _ _).trans rfl
theorem e_Row_takeLeast_42 (xs : List Int) (p : Nat) (v1 : Int) (h : zH) : zx zblk xs 118 42 [some (.inr (.inr (some p))), some (.inl v1)] [] h = (zck h (some p) 3 (zci (zx zblk xs 107 0 [some (.inr (.inr (some p))), some (.inl v1)] [] h) fun r2 h1 => (zgi h1 (some p) 3 1 fun f3 => (zck h1 (some p) 3 (zci (zx zblk xs 107 0 [some (.inr (.inr (some p))), some (.inl (f3 - 1))] [] h1) fun r5 h4 => (zck h4 (some p) 3 (zcv (zx zblk xs 108 0 [some (.inr (.inr (some p))), some (.inl v1), some (.inl r5)] [] h4) fun h6 => (zck h6 (some p) 3 (zcv (zx zblk xs 110 0 [some (.inr (.inr (some p)))] [] h6) fun h7 => some (some (.inl r2), h7)))))))))) := (zx_unfold zblk xs 118 42 _ rfl _ _ _).trans rfl
/-- MindReaders$Row.turn(I)V -/
noncomputable abbrev r_Row_turn (xs : List Int) (p : Nat) (v1 : Int) (h : zH) : Option zR := zx zblk xs 119 0 [some (.inr (.inr (some p))), some (.inl v1)] [] h
theorem e_Row_turn_0 (xs : List Int) (p : Nat) (v1 : Int) (h : zH) : zx zblk xs 119 0 [some (.inr (.inr (some p))), some (.inl v1)] [] h = zx zblk xs 119 2 [some (.inr (.inr (some p))), some (.inl v1), some (.inl 0)] [] h := (zx_unfold zblk xs 119 0 _ rfl _ _ _).trans rfl
theorem e_Row_turn_2 (xs : List Int) (p : Nat) (v1 : Int) (v2 : Int) (h : zH) : zx zblk xs 119 2 [some (.inr (.inr (some p))), some (.inl v1), some (.inl v2)] [] h = (zgi h (some p) 3 1 fun f1 => (if zw f1 ≤ zw v2 then zx zblk xs 119 42 [] [] h else (zck h (some p) 3 (zci (zx zblk xs 107 0 [some (.inr (.inr (some p))), some (.inl v2)] [] h) fun r3 h2 => (if zw v1 ≤ zw (r3 + 1) then zx zblk xs 119 30 [some (.inr (.inr (some p))), some (.inl v1), some (.inl v2)] [] h2 else (zck h2 (some p) 3 (zcv (zx zblk xs 108 0 [some (.inr (.inr (some p))), some (.inl v2), some (.inl (r3 + 1))] [] h2) fun h4 => some (none, h4)))))))) := (zx_unfold zblk xs 119 2 _ rfl _ _ _).trans rfl
theorem e_Row_turn_30 (xs : List Int) (p : Nat) (v1 : Int) (v2 : Int) (h : zH) : zx zblk xs 119 30 [some (.inr (.inr (some p))), some (.inl v1), some (.inl v2)] [] h = (zck h (some p) 3 (zcv (zx zblk xs 108 0 [some (.inr (.inr (some p))), some (.inl v2), some (.inl 0)] [] h) fun h1 => zx zblk xs 119 2 [some (.inr (.inr (some p))), some (.inl v1), some (.inl (v2 + 1))] [] h1)) := (zx_unfold zblk xs 119 30 _ rfl _ _ _).trans rfl
theorem e_Row_turn_42 (xs : List Int)  (h : zH) : zx zblk xs 119 42 [] [] h = some (none, h) := (zx_unfold zblk xs 119 42 _ rfl _ _ _).trans rfl
/-- MindReaders$Rows.row(I)LMindReaders$Row; -/
noncomputable abbrev r_Rows_row (xs : List Int) (p : Nat) (v1 : Int) (h : zH) : Option zR := zx zblk xs 121 0 [some (.inr (.inr (some p))), some (.inl v1)] [] h
theorem e_Rows_row_0 (xs : List Int) (p : Nat) (v1 : Int) (h : zH) : zx zblk xs 121 0 [some (.inr (.inr (some p))), some (.inl v1)] [] h = (if zw v1 < 0 then zx zblk xs 121 22 [some (.inr (.inr (some p)))] [] h else (zgr h (some p) 4 0 fun f1 => (zln xs h f1 fun n2 => (if zw n2 ≤ zw v1 then zx zblk xs 121 22 [some (.inr (.inr (some p)))] [] h else (zgr h (some p) 4 0 fun f3 => (zaa xs h f3 105 v1 fun a4 => zx zblk xs 121 23 [some (.inr (.inr (some p)))] [.inr (.inr a4)] h)))))) := (zx_unfold zblk xs 121 0 _ rfl _ _ _).trans rfl
theorem e_Rows_row_22 (xs : List Int) (p : Nat) (h : zH) : zx zblk xs 121 22 [some (.inr (.inr (some p)))] [] h = zx zblk xs 121 23 [some (.inr (.inr (some p)))] [.inr (.inr none)] h := (zx_unfold zblk xs 121 22 _ rfl _ _ _).trans rfl
theorem e_Rows_row_23 (xs : List Int) (p : Nat) (s0 : Option Nat) (h : zH) : zx zblk xs 121 23 [some (.inr (.inr (some p)))] [.inr (.inr s0)] h = (zif s0 ((zgr h (some p) 4 1 fun f1 => zx zblk xs 121 36 [] [.inr (.inr f1)] h)) (zx zblk xs 121 35 [none, none, some (.inr (.inr s0))] [] h)) := (zx_unfold zblk xs 121 23 _ rfl _ _ _).trans rfl
theorem e_Rows_row_35 (xs : List Int) (v2 : Option Nat) (h : zH) : zx zblk xs 121 35 [none, none, some (.inr (.inr v2))] [] h = zx zblk xs 121 36 [] [.inr (.inr v2)] h := (zx_unfold zblk xs 121 35 _ rfl _ _ _).trans rfl
theorem e_Rows_row_36 (xs : List Int) (s0 : Option Nat) (h : zH) : zx zblk xs 121 36 [] [.inr (.inr s0)] h = some (some (.inr (.inr s0)), h) := (zx_unfold zblk xs 121 36 _ rfl _ _ _).trans rfl
/-- MindReaders$Signals.told()I -/
noncomputable abbrev r_Signals_told (xs : List Int) (p : Nat) (h : zH) : Option zR := zx zblk xs 123 0 [some (.inr (.inr (some p)))] [] h
theorem e_Signals_told_0 (xs : List Int) (p : Nat) (h : zH) : zx zblk xs 123 0 [some (.inr (.inr (some p)))] [] h = (zgr h (some p) 5 0 fun f1 => (zck h f1 3 (zci (zx zblk xs 106 0 [some (.inr (.inr f1))] [] h) fun r3 h2 => some (some (.inl r3), h2)))) := (zx_unfold zblk xs 123 0 _ rfl _ _ _).trans rfl
/-- MindReaders$Signals.isTold(I)Z -/
noncomputable abbrev r_Signals_isTold (xs : List Int) (p : Nat) (v1 : Int) (h : zH) : Option zR := zx zblk xs 124 0 [some (.inr (.inr (some p))), some (.inl v1)] [] h
theorem e_Signals_isTold_0 (xs : List Int) (p : Nat) (v1 : Int) (h : zH) : zx zblk xs 124 0 [some (.inr (.inr (some p))), some (.inl v1)] [] h = (if zw v1 < 0 then zx zblk xs 124 19 [] [] h else (zgr h (some p) 5 0 fun f1 => (zck h f1 3 (zci (zx zblk xs 106 0 [some (.inr (.inr f1))] [] h) fun r3 h2 => (if zw r3 ≤ zw v1 then zx zblk xs 124 19 [] [] h2 else zx zblk xs 124 20 [] [.inl 1] h2))))) := (zx_unfold zblk xs 124 0 _ rfl _ _ _).trans rfl
theorem e_Signals_isTold_19 (xs : List Int)  (h : zH) : zx zblk xs 124 19 [] [] h = zx zblk xs 124 20 [] [.inl 0] h := (zx_unfold zblk xs 124 19 _ rfl _ _ _).trans rfl
theorem e_Signals_isTold_20 (xs : List Int) (s0 : Int) (h : zH) : zx zblk xs 124 20 [] [.inl s0] h = (if s0 = 0 ∨ s0 = 1 then some (some (.inl s0), h) else none) := (zx_unfold zblk xs 124 20 _ rfl _ _ _).trans rfl
/-- MindReaders$Signals.tell(IIII)V -/
noncomputable abbrev r_Signals_tell (xs : List Int) (p : Nat) (v1 : Int) (v2 : Int) (v3 : Int) (v4 : Int) (h : zH) : Option zR := zx zblk xs 125 0 [some (.inr (.inr (some p))), some (.inl v1), some (.inl v2), some (.inl v3), some (.inl v4)] [] h
theorem e_Signals_tell_0 (xs : List Int) (p : Nat) (v1 : Int) (v2 : Int) (v3 : Int) (v4 : Int) (h : zH) : zx zblk xs 125 0 [some (.inr (.inr (some p))), some (.inl v1), some (.inl v2), some (.inl v3), some (.inl v4)] [] h = (zgr h (some p) 5 0 fun f1 => (zck h f1 3 (zcv (zx zblk xs 109 0 [some (.inr (.inr f1)), some (.inl v1)] [] h) fun h2 => (zgr h2 (some p) 5 1 fun f3 => (zck h2 f3 3 (zcv (zx zblk xs 109 0 [some (.inr (.inr f3)), some (.inl v2)] [] h2) fun h4 => (zgr h4 (some p) 5 2 fun f5 => (zck h4 f5 3 (zcv (zx zblk xs 109 0 [some (.inr (.inr f5)), some (.inl v3)] [] h4) fun h6 => (zgr h6 (some p) 5 3 fun f7 => (zck h6 f7 3 (zcv (zx zblk xs 109 0 [some (.inr (.inr f7)), some (.inl v4)] [] h6) fun h8 => some (none, h8))))))))))))) := (zx_unfold zblk xs 125 0 _ rfl _ _ _).trans rfl
/-- MindReaders$Signals.kindOf(I)I -/
noncomputable abbrev r_Signals_kindOf (xs : List Int) (p : Nat) (v1 : Int) (h : zH) : Option zR := zx zblk xs 126 0 [some (.inr (.inr (some p))), some (.inl v1)] [] h
theorem e_Signals_kindOf_0 (xs : List Int) (p : Nat) (v1 : Int) (h : zH) : zx zblk xs 126 0 [some (.inr (.inr (some p))), some (.inl v1)] [] h = (zgr h (some p) 5 0 fun f1 => (zck h f1 3 (zci (zx zblk xs 107 0 [some (.inr (.inr f1)), some (.inl v1)] [] h) fun r3 h2 => (if zw r3 ≠ zw (-1) then zx zblk xs 126 18 [none, none, some (.inl r3)] [] h2 else zx zblk xs 126 19 [] [.inl 0] h2)))) := (zx_unfold zblk xs 126 0 _ rfl _ _ _).trans rfl
theorem e_Signals_kindOf_18 (xs : List Int) (v2 : Int) (h : zH) : zx zblk xs 126 18 [none, none, some (.inl v2)] [] h = zx zblk xs 126 19 [] [.inl v2] h := (zx_unfold zblk xs 126 18 _ rfl _ _ _).trans rfl
theorem e_Signals_kindOf_19 (xs : List Int) (s0 : Int) (h : zH) : zx zblk xs 126 19 [] [.inl s0] h = some (some (.inl s0), h) := (zx_unfold zblk xs 126 19 _ rfl _ _ _).trans rfl
/-- MindReaders$Signals.toneOf(I)I -/
noncomputable abbrev r_Signals_toneOf (xs : List Int) (p : Nat) (v1 : Int) (h : zH) : Option zR := zx zblk xs 127 0 [some (.inr (.inr (some p))), some (.inl v1)] [] h
theorem e_Signals_toneOf_0 (xs : List Int) (p : Nat) (v1 : Int) (h : zH) : zx zblk xs 127 0 [some (.inr (.inr (some p))), some (.inl v1)] [] h = (zgr h (some p) 5 1 fun f1 => (zck h f1 3 (zci (zx zblk xs 107 0 [some (.inr (.inr f1)), some (.inl v1)] [] h) fun r3 h2 => some (some (.inl r3), h2)))) := (zx_unfold zblk xs 127 0 _ rfl _ _ _).trans rfl
/-- MindReaders$Signals.secondsOf(I)I -/
noncomputable abbrev r_Signals_secondsOf (xs : List Int) (p : Nat) (v1 : Int) (h : zH) : Option zR := zx zblk xs 128 0 [some (.inr (.inr (some p))), some (.inl v1)] [] h
theorem e_Signals_secondsOf_0 (xs : List Int) (p : Nat) (v1 : Int) (h : zH) : zx zblk xs 128 0 [some (.inr (.inr (some p))), some (.inl v1)] [] h = (zgr h (some p) 5 2 fun f1 => (zck h f1 3 (zci (zx zblk xs 107 0 [some (.inr (.inr f1)), some (.inl v1)] [] h) fun r3 h2 => (if zw r3 ≠ zw (-1) then zx zblk xs 128 18 [none, none, some (.inl r3)] [] h2 else zx zblk xs 128 19 [] [.inl 1] h2)))) := (zx_unfold zblk xs 128 0 _ rfl _ _ _).trans rfl
theorem e_Signals_secondsOf_18 (xs : List Int) (v2 : Int) (h : zH) : zx zblk xs 128 18 [none, none, some (.inl v2)] [] h = zx zblk xs 128 19 [] [.inl v2] h := (zx_unfold zblk xs 128 18 _ rfl _ _ _).trans rfl
theorem e_Signals_secondsOf_19 (xs : List Int) (s0 : Int) (h : zH) : zx zblk xs 128 19 [] [.inl s0] h = some (some (.inl s0), h) := (zx_unfold zblk xs 128 19 _ rfl _ _ _).trans rfl
/-- MindReaders$Signals.oddOf(I)I -/
noncomputable abbrev r_Signals_oddOf (xs : List Int) (p : Nat) (v1 : Int) (h : zH) : Option zR := zx zblk xs 129 0 [some (.inr (.inr (some p))), some (.inl v1)] [] h
theorem e_Signals_oddOf_0 (xs : List Int) (p : Nat) (v1 : Int) (h : zH) : zx zblk xs 129 0 [some (.inr (.inr (some p))), some (.inl v1)] [] h = (zgr h (some p) 5 3 fun f1 => (zck h f1 3 (zci (zx zblk xs 107 0 [some (.inr (.inr f1)), some (.inl v1)] [] h) fun r3 h2 => (if zw r3 ≠ zw (-1) then zx zblk xs 129 18 [none, none, some (.inl r3)] [] h2 else zx zblk xs 129 19 [] [.inl 0] h2)))) := (zx_unfold zblk xs 129 0 _ rfl _ _ _).trans rfl
theorem e_Signals_oddOf_18 (xs : List Int) (v2 : Int) (h : zH) : zx zblk xs 129 18 [none, none, some (.inl v2)] [] h = zx zblk xs 129 19 [] [.inl v2] h := (zx_unfold zblk xs 129 18 _ rfl _ _ _).trans rfl
theorem e_Signals_oddOf_19 (xs : List Int) (s0 : Int) (h : zH) : zx zblk xs 129 19 [] [.inl s0] h = some (some (.inl s0), h) := (zx_unfold zblk xs 129 19 _ rfl _ _ _).trans rfl
/-- MindReaders$Signals.isToneFor(II)Z -/
noncomputable abbrev r_Signals_isToneFor (xs : List Int) (p : Nat) (v1 : Int) (v2 : Int) (h : zH) : Option zR := zx zblk xs 130 0 [some (.inr (.inr (some p))), some (.inl v1), some (.inl v2)] [] h
theorem e_Signals_isToneFor_0 (xs : List Int) (p : Nat) (v1 : Int) (v2 : Int) (h : zH) : zx zblk xs 130 0 [some (.inr (.inr (some p))), some (.inl v1), some (.inl v2)] [] h = (if zw v1 = zw 2 then zx zblk xs 130 16 [some (.inr (.inr (some p))), none, some (.inl v2)] [] h else (if zw v2 ≠ zw (-1) then zx zblk xs 130 14 [] [] h else zx zblk xs 130 15 [] [.inl 1] h)) := (zx_unfold zblk xs 130 0 _ rfl _ _ _).trans rfl
theorem e_Signals_isToneFor_14 (xs : List Int)  (h : zH) : zx zblk xs 130 14 [] [] h = zx zblk xs 130 15 [] [.inl 0] h := (zx_unfold zblk xs 130 14 _ rfl _ _ _).trans rfl
theorem e_Signals_isToneFor_15 (xs : List Int) (s0 : Int) (h : zH) : zx zblk xs 130 15 [] [.inl s0] h = (if s0 = 0 ∨ s0 = 1 then some (some (.inl s0), h) else none) := (zx_unfold zblk xs 130 15 _ rfl _ _ _).trans rfl
theorem e_Signals_isToneFor_16 (xs : List Int) (p : Nat) (v2 : Int) (h : zH) : zx zblk xs 130 16 [some (.inr (.inr (some p))), none, some (.inl v2)] [] h = (zck h (some p) 5 (zci (zx zblk xs 124 0 [some (.inr (.inr (some p))), some (.inl v2)] [] h) fun r2 h1 => (if zw r2 = 0 then zx zblk xs 130 45 [] [] h1 else (zck h1 (some p) 5 (zci (zx zblk xs 126 0 [some (.inr (.inr (some p))), some (.inl v2)] [] h1) fun r4 h3 => (if zw r4 = 0 then zx zblk xs 130 41 [] [] h3 else (zck h3 (some p) 5 (zci (zx zblk xs 126 0 [some (.inr (.inr (some p))), some (.inl v2)] [] h3) fun r6 h5 => (if zw r6 ≠ zw 1 then zx zblk xs 130 45 [] [] h5 else zx zblk xs 130 41 [] [] h5))))))))) := (zx_unfold zblk xs 130 16 _ rfl _ _ _).trans rfl
theorem e_Signals_isToneFor_41 (xs : List Int)  (h : zH) : zx zblk xs 130 41 [] [] h = zx zblk xs 130 46 [] [.inl 1] h := (zx_unfold zblk xs 130 41 _ rfl _ _ _).trans rfl
theorem e_Signals_isToneFor_45 (xs : List Int)  (h : zH) : zx zblk xs 130 45 [] [] h = zx zblk xs 130 46 [] [.inl 0] h := (zx_unfold zblk xs 130 45 _ rfl _ _ _).trans rfl
theorem e_Signals_isToneFor_46 (xs : List Int) (s0 : Int) (h : zH) : zx zblk xs 130 46 [] [.inl s0] h = (if s0 = 0 ∨ s0 = 1 then some (some (.inl s0), h) else none) := (zx_unfold zblk xs 130 46 _ rfl _ _ _).trans rfl
/-- MindReaders$Signals.secondsOfAll(LMindReaders$Row;)I -/
noncomputable abbrev r_Signals_secondsOfAll (xs : List Int) (p : Nat) (v1 : Option Nat) (h : zH) : Option zR := zx zblk xs 131 0 [some (.inr (.inr (some p))), some (.inr (.inr v1))] [] h
theorem e_Signals_secondsOfAll_0 (xs : List Int) (p : Nat) (v1 : Option Nat) (h : zH) : zx zblk xs 131 0 [some (.inr (.inr (some p))), some (.inr (.inr v1))] [] h = zx zblk xs 131 4 [some (.inr (.inr (some p))), some (.inr (.inr v1)), some (.inl 0), some (.inl 0)] [] h := (zx_unfold zblk xs 131 0 _ rfl _ _ _).trans rfl
theorem e_Signals_secondsOfAll_4 (xs : List Int) (p : Nat) (v1 : Option Nat) (v2 : Int) (v3 : Int) (h : zH) : zx zblk xs 131 4 [some (.inr (.inr (some p))), some (.inr (.inr v1)), some (.inl v2), some (.inl v3)] [] h = (zck h v1 3 (zci (zx zblk xs 106 0 [some (.inr (.inr v1))] [] h) fun r2 h1 => (if zw r2 ≤ zw v3 then zx zblk xs 131 30 [none, none, some (.inl v2)] [] h1 else (zck h1 v1 3 (zci (zx zblk xs 107 0 [some (.inr (.inr v1)), some (.inl v3)] [] h1) fun r4 h3 => (zck h3 (some p) 5 (zci (zx zblk xs 128 0 [some (.inr (.inr (some p))), some (.inl r4)] [] h3) fun r6 h5 => zx zblk xs 131 4 [some (.inr (.inr (some p))), some (.inr (.inr v1)), some (.inl (v2 + r6)), some (.inl (v3 + 1))] [] h5))))))) := (zx_unfold zblk xs 131 4 _ rfl _ _ _).trans rfl
theorem e_Signals_secondsOfAll_30 (xs : List Int) (v2 : Int) (h : zH) : zx zblk xs 131 30 [none, none, some (.inl v2)] [] h = some (some (.inl v2), h) := (zx_unfold zblk xs 131 30 _ rfl _ _ _).trans rfl
/-- MindReaders$Signals.oddOfAll(LMindReaders$Row;)I -/
noncomputable abbrev r_Signals_oddOfAll (xs : List Int) (p : Nat) (v1 : Option Nat) (h : zH) : Option zR := zx zblk xs 132 0 [some (.inr (.inr (some p))), some (.inr (.inr v1))] [] h
theorem e_Signals_oddOfAll_0 (xs : List Int) (p : Nat) (v1 : Option Nat) (h : zH) : zx zblk xs 132 0 [some (.inr (.inr (some p))), some (.inr (.inr v1))] [] h = zx zblk xs 132 4 [some (.inr (.inr (some p))), some (.inr (.inr v1)), some (.inl 0), some (.inl 0)] [] h := (zx_unfold zblk xs 132 0 _ rfl _ _ _).trans rfl
theorem e_Signals_oddOfAll_4 (xs : List Int) (p : Nat) (v1 : Option Nat) (v2 : Int) (v3 : Int) (h : zH) : zx zblk xs 132 4 [some (.inr (.inr (some p))), some (.inr (.inr v1)), some (.inl v2), some (.inl v3)] [] h = (zck h v1 3 (zci (zx zblk xs 106 0 [some (.inr (.inr v1))] [] h) fun r2 h1 => (if zw r2 ≤ zw v3 then zx zblk xs 132 30 [none, none, some (.inl v2)] [] h1 else (zck h1 v1 3 (zci (zx zblk xs 107 0 [some (.inr (.inr v1)), some (.inl v3)] [] h1) fun r4 h3 => (zck h3 (some p) 5 (zci (zx zblk xs 129 0 [some (.inr (.inr (some p))), some (.inl r4)] [] h3) fun r6 h5 => zx zblk xs 132 4 [some (.inr (.inr (some p))), some (.inr (.inr v1)), some (.inl (v2 + r6)), some (.inl (v3 + 1))] [] h5))))))) := (zx_unfold zblk xs 132 4 _ rfl _ _ _).trans rfl
theorem e_Signals_oddOfAll_30 (xs : List Int) (v2 : Int) (h : zH) : zx zblk xs 132 30 [none, none, some (.inl v2)] [] h = some (some (.inl v2), h) := (zx_unfold zblk xs 132 30 _ rfl _ _ _).trans rfl
/-- MindReaders$Signals.makePlain(LMindReaders$Row;ILMindReaders$Row;)V -/
noncomputable abbrev r_Signals_makePlain (xs : List Int) (p : Nat) (v1 : Option Nat) (v2 : Int) (v3 : Option Nat) (h : zH) : Option zR := zx zblk xs 133 0 [some (.inr (.inr (some p))), some (.inr (.inr v1)), some (.inl v2), some (.inr (.inr v3))] [] h
theorem e_Signals_makePlain_0 (xs : List Int) (p : Nat) (v1 : Option Nat) (v2 : Int) (v3 : Option Nat) (h : zH) : zx zblk xs 133 0 [some (.inr (.inr (some p))), some (.inr (.inr v1)), some (.inl v2), some (.inr (.inr v3))] [] h = (zck h v3 3 (zcv (zx zblk xs 111 0 [some (.inr (.inr v3))] [] h) fun h1 => zx zblk xs 133 7 [some (.inr (.inr (some p))), some (.inr (.inr v1)), some (.inl v2), some (.inr (.inr v3)), some (.inl 0)] [] h1)) := (zx_unfold zblk xs 133 0 _ rfl _ _ _).trans rfl
theorem e_Signals_makePlain_7 (xs : List Int) (p : Nat) (v1 : Option Nat) (v2 : Int) (v3 : Option Nat) (v4 : Int) (h : zH) : zx zblk xs 133 7 [some (.inr (.inr (some p))), some (.inr (.inr v1)), some (.inl v2), some (.inr (.inr v3)), some (.inl v4)] [] h = (zck h v1 3 (zci (zx zblk xs 106 0 [some (.inr (.inr v1))] [] h) fun r2 h1 => (if zw r2 ≤ zw v4 then zx zblk xs 133 109 [] [] h1 else (zck h1 v1 3 (zci (zx zblk xs 107 0 [some (.inr (.inr v1)), some (.inl v4)] [] h1) fun r4 h3 => (if zw (zand (zshr v2 r4) 1) = 0 then zx zblk xs 133 36 [some (.inr (.inr (some p))), some (.inr (.inr v1)), some (.inl v2), some (.inr (.inr v3)), some (.inl v4), some (.inl r4)] [] h3 else zx zblk xs 133 103 [some (.inr (.inr (some p))), some (.inr (.inr v1)), some (.inl v2), some (.inr (.inr v3)), some (.inl v4)] [] h3)))))) := (zx_unfold zblk xs 133 7 _ rfl _ _ _).trans rfl
theorem e_Signals_makePlain_36 (xs : List Int) (p : Nat) (v1 : Option Nat) (v2 : Int) (v3 : Option Nat) (v4 : Int) (v5 : Int) (h : zH) : zx zblk xs 133 36 [some (.inr (.inr (some p))), some (.inr (.inr v1)), some (.inl v2), some (.inr (.inr v3)), some (.inl v4), some (.inl v5)] [] h = (zck h (some p) 5 (zci (zx zblk xs 126 0 [some (.inr (.inr (some p))), some (.inl v5)] [] h) fun r2 h1 => (if zw r2 = 0 then zx zblk xs 133 55 [some (.inr (.inr (some p))), some (.inr (.inr v1)), some (.inl v2), some (.inr (.inr v3)), some (.inl v4), some (.inl v5)] [] h1 else (if zw r2 ≠ zw 1 then zx zblk xs 133 64 [some (.inr (.inr (some p))), some (.inr (.inr v1)), some (.inl v2), some (.inr (.inr v3)), some (.inl v4), some (.inl v5), some (.inl r2)] [] h1 else zx zblk xs 133 55 [some (.inr (.inr (some p))), some (.inr (.inr v1)), some (.inl v2), some (.inr (.inr v3)), some (.inl v4), some (.inl v5)] [] h1)))) := (zx_unfold zblk xs 133 36 _ rfl _ _ _).trans rfl
theorem e_Signals_makePlain_55 (xs : List Int) (p : Nat) (v1 : Option Nat) (v2 : Int) (v3 : Option Nat) (v4 : Int) (v5 : Int) (h : zH) : zx zblk xs 133 55 [some (.inr (.inr (some p))), some (.inr (.inr v1)), some (.inl v2), some (.inr (.inr v3)), some (.inl v4), some (.inl v5)] [] h = (zck h v3 3 (zcv (zx zblk xs 109 0 [some (.inr (.inr v3)), some (.inl v5)] [] h) fun h1 => zx zblk xs 133 103 [some (.inr (.inr (some p))), some (.inr (.inr v1)), some (.inl v2), some (.inr (.inr v3)), some (.inl v4)] [] h1)) := (zx_unfold zblk xs 133 55 _ rfl _ _ _).trans rfl
theorem e_Signals_makePlain_64 (xs : List Int) (p : Nat) (v1 : Option Nat) (v2 : Int) (v3 : Option Nat) (v4 : Int) (v5 : Int) (v6 : Int) (h : zH) : zx zblk xs 133 64 [some (.inr (.inr (some p))), some (.inr (.inr v1)), some (.inl v2), some (.inr (.inr v3)), some (.inl v4), some (.inl v5), some (.inl v6)] [] h = (if zw v6 ≠ zw 2 then zx zblk xs 133 93 [some (.inr (.inr (some p))), some (.inr (.inr v1)), some (.inl v2), some (.inr (.inr v3)), some (.inl v4), none, some (.inl v6)] [] h else (zck h (some p) 5 (zci (zx zblk xs 127 0 [some (.inr (.inr (some p))), some (.inl v5)] [] h) fun r2 h1 => (zck h1 v3 3 (zcv (zx zblk xs 109 0 [some (.inr (.inr v3)), some (.inl r2)] [] h1) fun h3 => (zck h3 (some p) 5 (zci (zx zblk xs 127 0 [some (.inr (.inr (some p))), some (.inl v5)] [] h3) fun r5 h4 => (zck h4 v3 3 (zcv (zx zblk xs 109 0 [some (.inr (.inr v3)), some (.inl r5)] [] h4) fun h6 => zx zblk xs 133 103 [some (.inr (.inr (some p))), some (.inr (.inr v1)), some (.inl v2), some (.inr (.inr v3)), some (.inl v4)] [] h6))))))))) := (zx_unfold zblk xs 133 64 _ rfl _ _ _).trans rfl
theorem e_Signals_makePlain_93 (xs : List Int) (p : Nat) (v1 : Option Nat) (v2 : Int) (v3 : Option Nat) (v4 : Int) (v6 : Int) (h : zH) : zx zblk xs 133 93 [some (.inr (.inr (some p))), some (.inr (.inr v1)), some (.inl v2), some (.inr (.inr v3)), some (.inl v4), none, some (.inl v6)] [] h = (if zw v6 ≠ zw 4 then zx zblk xs 133 103 [some (.inr (.inr (some p))), some (.inr (.inr v1)), some (.inl v2), some (.inr (.inr v3)), some (.inl v4)] [] h else (zck h v3 3 (zcv (zx zblk xs 110 0 [some (.inr (.inr v3))] [] h) fun h1 => zx zblk xs 133 103 [some (.inr (.inr (some p))), some (.inr (.inr v1)), some (.inl v2), some (.inr (.inr v3)), some (.inl v4)] [] h1))) := (zx_unfold zblk xs 133 93 _ rfl _ _ _).trans rfl
theorem e_Signals_makePlain_103 (xs : List Int) (p : Nat) (v1 : Option Nat) (v2 : Int) (v3 : Option Nat) (v4 : Int) (h : zH) : zx zblk xs 133 103 [some (.inr (.inr (some p))), some (.inr (.inr v1)), some (.inl v2), some (.inr (.inr v3)), some (.inl v4)] [] h = zx zblk xs 133 7 [some (.inr (.inr (some p))), some (.inr (.inr v1)), some (.inl v2), some (.inr (.inr v3)), some (.inl (v4 + 1))] [] h := (zx_unfold zblk xs 133 103 _ rfl _ _ _).trans rfl
theorem e_Signals_makePlain_109 (xs : List Int)  (h : zH) : zx zblk xs 133 109 [] [] h = some (none, h) := (zx_unfold zblk xs 133 109 _ rfl _ _ _).trans rfl
/-- java/lang/Integer.bitCount(I)I -/
noncomputable abbrev r_J_bitCount (xs : List Int) (v1 : Int) (h : zH) : Option zR := zx zblk xs 199 0 [some (.inl v1)] [] h
theorem e_J_bitCount_0 (xs : List Int) (v0 : Int) (h : zH) : zx zblk xs 199 0 [some (.inl v0)] [] h = some (some (.inl (zand (((zand (((zand (v0 - (zand (zushr v0 1) 1431655765)) 858993459) + (zand (zushr (v0 - (zand (zushr v0 1) 1431655765)) 2) 858993459)) + (zushr ((zand (v0 - (zand (zushr v0 1) 1431655765)) 858993459) + (zand (zushr (v0 - (zand (zushr v0 1) 1431655765)) 2) 858993459)) 4)) 252645135) + (zushr (zand (((zand (v0 - (zand (zushr v0 1) 1431655765)) 858993459) + (zand (zushr (v0 - (zand (zushr v0 1) 1431655765)) 2) 858993459)) + (zushr ((zand (v0 - (zand (zushr v0 1) 1431655765)) 858993459) + (zand (zushr (v0 - (zand (zushr v0 1) 1431655765)) 2) 858993459)) 4)) 252645135) 8)) + (zushr ((zand (((zand (v0 - (zand (zushr v0 1) 1431655765)) 858993459) + (zand (zushr (v0 - (zand (zushr v0 1) 1431655765)) 2) 858993459)) + (zushr ((zand (v0 - (zand (zushr v0 1) 1431655765)) 858993459) + (zand (zushr (v0 - (zand (zushr v0 1) 1431655765)) 2) 858993459)) 4)) 252645135) + (zushr (zand (((zand (v0 - (zand (zushr v0 1) 1431655765)) 858993459) + (zand (zushr (v0 - (zand (zushr v0 1) 1431655765)) 2) 858993459)) + (zushr ((zand (v0 - (zand (zushr v0 1) 1431655765)) 858993459) + (zand (zushr (v0 - (zand (zushr v0 1) 1431655765)) 2) 858993459)) 4)) 252645135) 8)) 16)) 63)), h) := (zx_unfold zblk xs 199 0 _ rfl _ _ _).trans rfl
end
section
/-! ===== what each block of code does (printed by a program of mine; each by rfl) ===== -/
/-- MindReaders.letters(J)I -/
noncomputable abbrev r_X_letters (xs : List Int) (p : Nat) (v1 : Int) (h : zH) : Option zR := zx zblk xs 135 0 [some (.inr (.inr (some p))), some (.inr (.inl v1)), none] [] h
theorem e_X_letters_0 (xs : List Int) (p : Nat) (v1 : Int) (h : zH) : zx zblk xs 135 0 [some (.inr (.inr (some p))), some (.inr (.inl v1)), none] [] h = (zci (zx zblk xs 174 0 [some (.inr (.inl v1)), none] [] h) fun r2 h1 => (if zw r2 ≠ zw (-1) then zx zblk xs 135 13 [some (.inr (.inr (some p))), some (.inr (.inl v1)), none, some (.inl r2)] [] h1 else some (some (.inl (-102)), h1))) := (zx_unfold zblk xs 135 0 _ rfl _ _ _).trans rfl
theorem e_X_letters_13 (xs : List Int) (p : Nat) (v1 : Int) (v3 : Int) (h : zH) : zx zblk xs 135 13 [some (.inr (.inr (some p))), some (.inr (.inl v1)), none, some (.inl v3)] [] h = (zgr h (some p) 6 4 fun f1 => (zck h f1 3 (zci (zx zblk xs 106 0 [some (.inr (.inr f1))] [] h) fun r3 h2 => (if zw (r3 + v3) ≤ zw 48 then zx zblk xs 135 30 [some (.inr (.inr (some p))), some (.inr (.inl v1)), none, some (.inl v3)] [] h2 else some (some (.inl (-104)), h2))))) := (zx_unfold zblk xs 135 13 _ rfl _ _ _).trans rfl
theorem e_X_letters_30 (xs : List Int) (p : Nat) (v1 : Int) (v3 : Int) (h : zH) : zx zblk xs 135 30 [some (.inr (.inr (some p))), some (.inr (.inl v1)), none, some (.inl v3)] [] h = zx zblk xs 135 33 [some (.inr (.inr (some p))), some (.inr (.inl v1)), none, some (.inl v3), some (.inl 0)] [] h := (zx_unfold zblk xs 135 30 _ rfl _ _ _).trans rfl
theorem e_X_letters_33 (xs : List Int) (p : Nat) (v1 : Int) (v3 : Int) (v4 : Int) (h : zH) : zx zblk xs 135 33 [some (.inr (.inr (some p))), some (.inr (.inl v1)), none, some (.inl v3), some (.inl v4)] [] h = (if zw v3 ≤ zw v4 then zx zblk xs 135 58 [some (.inr (.inr (some p)))] [] h else (zgr h (some p) 6 4 fun f1 => (zci (zx zblk xs 173 0 [some (.inr (.inl v1)), none, some (.inl v4)] [] h) fun r3 h2 => (zck h2 f1 3 (zcv (zx zblk xs 109 0 [some (.inr (.inr f1)), some (.inl r3)] [] h2) fun h4 => zx zblk xs 135 33 [some (.inr (.inr (some p))), some (.inr (.inl v1)), none, some (.inl v3), some (.inl (v4 + 1))] [] h4))))) := (zx_unfold zblk xs 135 33 _ rfl _ _ _).trans rfl
theorem e_X_letters_58 (xs : List Int) (p : Nat) (h : zH) : zx zblk xs 135 58 [some (.inr (.inr (some p)))] [] h = (zgr h (some p) 6 4 fun f1 => (zck h f1 3 (zci (zx zblk xs 106 0 [some (.inr (.inr f1))] [] h) fun r3 h2 => some (some (.inl r3), h2)))) := (zx_unfold zblk xs 135 58 _ rfl _ _ _).trans rfl
/-- MindReaders.blank()I -/
noncomputable abbrev r_X_blank (xs : List Int) (p : Nat) (h : zH) : Option zR := zx zblk xs 136 0 [some (.inr (.inr (some p)))] [] h
theorem e_X_blank_0 (xs : List Int) (p : Nat) (h : zH) : zx zblk xs 136 0 [some (.inr (.inr (some p)))] [] h = (zgr h (some p) 6 4 fun f1 => (zck h f1 3 (zci (zx zblk xs 106 0 [some (.inr (.inr f1))] [] h) fun r3 h2 => (zgr h2 (some p) 6 4 fun f4 => (zck h2 f4 3 (zcv (zx zblk xs 111 0 [some (.inr (.inr f4))] [] h2) fun h5 => some (some (.inl r3), h5))))))) := (zx_unfold zblk xs 136 0 _ rfl _ _ _).trans rfl
/-- MindReaders.fault()I -/
noncomputable abbrev r_X_fault (xs : List Int) (p : Nat) (h : zH) : Option zR := zx zblk xs 137 0 [some (.inr (.inr (some p)))] [] h
theorem e_X_fault_0 (xs : List Int) (p : Nat) (h : zH) : zx zblk xs 137 0 [some (.inr (.inr (some p)))] [] h = (zck h (some p) 6 (zci (zx zblk xs 176 0 [some (.inr (.inr (some p)))] [] h) fun r2 h1 => some (some (.inl r2), h1))) := (zx_unfold zblk xs 137 0 _ rfl _ _ _).trans rfl
/-- MindReaders.code()I -/
noncomputable abbrev r_X_code (xs : List Int) (p : Nat) (h : zH) : Option zR := zx zblk xs 138 0 [some (.inr (.inr (some p)))] [] h
theorem e_X_code_0 (xs : List Int) (p : Nat) (h : zH) : zx zblk xs 138 0 [some (.inr (.inr (some p)))] [] h = (zgr h (some p) 6 4 fun f1 => (zgr h (some p) 6 4 fun f2 => (zck h f2 3 (zci (zx zblk xs 106 0 [some (.inr (.inr f2))] [] h) fun r4 h3 => (zck h3 f1 3 (zci (zx zblk xs 107 0 [some (.inr (.inr f1)), some (.inl (r4 - 1))] [] h3) fun r6 h5 => (zci (zx zblk xs 175 0 [some (.inl r6)] [] h5) fun r8 h7 => (if zw r8 = zw (-1) then zx zblk xs 138 27 [some (.inr (.inr (some p)))] [] h7 else zx zblk xs 138 28 [some (.inr (.inr (some p)))] [.inl 1] h7)))))))) := (zx_unfold zblk xs 138 0 _ rfl _ _ _).trans rfl
theorem e_X_code_27 (xs : List Int) (p : Nat) (h : zH) : zx zblk xs 138 27 [some (.inr (.inr (some p)))] [] h = zx zblk xs 138 28 [some (.inr (.inr (some p)))] [.inl 0] h := (zx_unfold zblk xs 138 27 _ rfl _ _ _).trans rfl
theorem e_X_code_28 (xs : List Int) (p : Nat) (s0 : Int) (h : zH) : zx zblk xs 138 28 [some (.inr (.inr (some p)))] [.inl s0] h = (if zw s0 = 0 then zx zblk xs 138 47 [] [] h else (zck h (some p) 6 (zci (zx zblk xs 176 0 [some (.inr (.inr (some p)))] [] h) fun r2 h1 => (zgr h1 (some p) 6 4 fun f3 => (zck h1 f3 3 (zci (zx zblk xs 106 0 [some (.inr (.inr f3))] [] h1) fun r5 h4 => (if zw r5 ≤ zw r2 then zx zblk xs 138 50 [some (.inr (.inr (some p)))] [] h4 else zx zblk xs 138 47 [] [] h4))))))) := (zx_unfold zblk xs 138 28 _ rfl _ _ _).trans rfl
theorem e_X_code_47 (xs : List Int)  (h : zH) : zx zblk xs 138 47 [] [] h = some (some (.inl (-103)), h) := (zx_unfold zblk xs 138 47 _ rfl _ _ _).trans rfl
theorem e_X_code_50 (xs : List Int) (p : Nat) (h : zH) : zx zblk xs 138 50 [some (.inr (.inr (some p)))] [] h = (zgi h (some p) 6 3 fun f1 => (if zw f1 < 0 then zx zblk xs 138 69 [] [] h else (zgi h (some p) 6 3 fun f2 => (zgr h (some p) 6 2 fun f3 => (zln xs h f3 fun n4 => (if zw f2 < zw n4 then zx zblk xs 138 72 [some (.inr (.inr (some p)))] [] h else zx zblk xs 138 69 [] [] h)))))) := (zx_unfold zblk xs 138 50 _ rfl _ _ _).trans rfl
theorem e_X_code_69 (xs : List Int)  (h : zH) : zx zblk xs 138 69 [] [] h = some (some (.inl (-104)), h) := (zx_unfold zblk xs 138 69 _ rfl _ _ _).trans rfl
theorem e_X_code_72 (xs : List Int) (p : Nat) (h : zH) : zx zblk xs 138 72 [some (.inr (.inr (some p)))] [] h = (zgr h (some p) 6 2 fun f1 => (zgi h (some p) 6 3 fun f2 => (zaa xs h f1 102 f2 fun a3 => (zif a3 (some (some (.inl (-104)), h)) (zx zblk xs 138 89 [some (.inr (.inr (some p))), none, some (.inr (.inr a3))] [] h))))) := (zx_unfold zblk xs 138 72 _ rfl _ _ _).trans rfl
theorem e_X_code_89 (xs : List Int) (p : Nat) (v2 : Option Nat) (h : zH) : zx zblk xs 138 89 [some (.inr (.inr (some p))), none, some (.inr (.inr v2))] [] h = (zgr h (some p) 6 4 fun f1 => (zck h v2 0 (zcv (zx zblk xs 86 0 [some (.inr (.inr v2)), some (.inr (.inr f1))] [] h) fun h2 => (zgr h2 (some p) 6 0 fun f3 => (zck h2 v2 0 (zcv (zx zblk xs 87 0 [some (.inr (.inr v2)), some (.inr (.inr f3))] [] h2) fun h4 => (zgr h4 (some p) 6 4 fun f5 => (zck h4 f5 3 (zcv (zx zblk xs 111 0 [some (.inr (.inr f5))] [] h4) fun h6 => (zgi h6 (some p) 6 3 fun f7 => (zpf h6 (some p) 6 3 (.inl (f7 + 1)) fun h8 => (zgi h8 (some p) 6 3 fun f9 => some (some (.inl (f9 - 1)), h8))))))))))))) := (zx_unfold zblk xs 138 89 _ rfl _ _ _).trans rfl
/-- MindReaders.signal(IIII)I -/
noncomputable abbrev r_X_signal (xs : List Int) (p : Nat) (v1 : Int) (v2 : Int) (v3 : Int) (v4 : Int) (h : zH) : Option zR := zx zblk xs 139 0 [some (.inr (.inr (some p))), some (.inl v1), some (.inl v2), some (.inl v3), some (.inl v4)] [] h
theorem e_X_signal_0 (xs : List Int) (p : Nat) (v1 : Int) (v2 : Int) (v3 : Int) (v4 : Int) (h : zH) : zx zblk xs 139 0 [some (.inr (.inr (some p))), some (.inl v1), some (.inl v2), some (.inl v3), some (.inl v4)] [] h = (if zw v1 < 0 then zx zblk xs 139 9 [] [] h else (if zw v1 ≤ zw 4 then zx zblk xs 139 12 [some (.inr (.inr (some p))), some (.inl v1), some (.inl v2), some (.inl v3), some (.inl v4)] [] h else zx zblk xs 139 9 [] [] h)) := (zx_unfold zblk xs 139 0 _ rfl _ _ _).trans rfl
theorem e_X_signal_9 (xs : List Int)  (h : zH) : zx zblk xs 139 9 [] [] h = some (some (.inl (-102)), h) := (zx_unfold zblk xs 139 9 _ rfl _ _ _).trans rfl
theorem e_X_signal_12 (xs : List Int) (p : Nat) (v1 : Int) (v2 : Int) (v3 : Int) (v4 : Int) (h : zH) : zx zblk xs 139 12 [some (.inr (.inr (some p))), some (.inl v1), some (.inl v2), some (.inl v3), some (.inl v4)] [] h = (zgr h (some p) 6 0 fun f1 => (zck h f1 5 (zci (zx zblk xs 130 0 [some (.inr (.inr f1)), some (.inl v1), some (.inl v2)] [] h) fun r3 h2 => (if zw r3 ≠ 0 then zx zblk xs 139 27 [some (.inr (.inr (some p))), some (.inl v1), some (.inl v2), some (.inl v3), some (.inl v4)] [] h2 else some (some (.inl (-101)), h2))))) := (zx_unfold zblk xs 139 12 _ rfl _ _ _).trans rfl
theorem e_X_signal_27 (xs : List Int) (p : Nat) (v1 : Int) (v2 : Int) (v3 : Int) (v4 : Int) (h : zH) : zx zblk xs 139 27 [some (.inr (.inr (some p))), some (.inl v1), some (.inl v2), some (.inl v3), some (.inl v4)] [] h = (if zw v3 < zw 1 then zx zblk xs 139 50 [] [] h else (if zw 9 < zw v3 then zx zblk xs 139 50 [] [] h else (if zw v4 < 0 then zx zblk xs 139 50 [] [] h else (if zw v4 ≤ zw 9 then zx zblk xs 139 53 [some (.inr (.inr (some p))), some (.inl v1), some (.inl v2), some (.inl v3), some (.inl v4)] [] h else zx zblk xs 139 50 [] [] h)))) := (zx_unfold zblk xs 139 27 _ rfl _ _ _).trans rfl
theorem e_X_signal_50 (xs : List Int)  (h : zH) : zx zblk xs 139 50 [] [] h = some (some (.inl (-102)), h) := (zx_unfold zblk xs 139 50 _ rfl _ _ _).trans rfl
theorem e_X_signal_53 (xs : List Int) (p : Nat) (v1 : Int) (v2 : Int) (v3 : Int) (v4 : Int) (h : zH) : zx zblk xs 139 53 [some (.inr (.inr (some p))), some (.inl v1), some (.inl v2), some (.inl v3), some (.inl v4)] [] h = (zgr h (some p) 6 0 fun f1 => (zck h f1 5 (zci (zx zblk xs 123 0 [some (.inr (.inr f1))] [] h) fun r3 h2 => (if zw r3 < zw 8 then zx zblk xs 139 68 [some (.inr (.inr (some p))), some (.inl v1), some (.inl v2), some (.inl v3), some (.inl v4)] [] h2 else some (some (.inl (-104)), h2))))) := (zx_unfold zblk xs 139 53 _ rfl _ _ _).trans rfl
theorem e_X_signal_68 (xs : List Int) (p : Nat) (v1 : Int) (v2 : Int) (v3 : Int) (v4 : Int) (h : zH) : zx zblk xs 139 68 [some (.inr (.inr (some p))), some (.inl v1), some (.inl v2), some (.inl v3), some (.inl v4)] [] h = (zgr h (some p) 6 0 fun f1 => (zck h f1 5 (zcv (zx zblk xs 125 0 [some (.inr (.inr f1)), some (.inl v1), some (.inl v2), some (.inl v3), some (.inl v4)] [] h) fun h2 => zx zblk xs 139 83 [some (.inr (.inr (some p))), none, none, none, none, some (.inl 0)] [] h2))) := (zx_unfold zblk xs 139 68 _ rfl _ _ _).trans rfl
theorem e_X_signal_83 (xs : List Int) (p : Nat) (v5 : Int) (h : zH) : zx zblk xs 139 83 [some (.inr (.inr (some p))), none, none, none, none, some (.inl v5)] [] h = (zgi h (some p) 6 3 fun f1 => (if zw f1 ≤ zw v5 then zx zblk xs 139 120 [some (.inr (.inr (some p)))] [] h else (zck h (some p) 6 (zcr (zx zblk xs 182 0 [some (.inr (.inr (some p))), some (.inl v5)] [] h) fun r3 h2 => (zif r3 (zx zblk xs 139 114 [some (.inr (.inr (some p))), none, none, none, none, some (.inl v5)] [] h2) ((zgr h2 (some p) 6 0 fun f4 => (zck h2 r3 0 (zcv (zx zblk xs 87 0 [some (.inr (.inr r3)), some (.inr (.inr f4))] [] h2) fun h5 => zx zblk xs 139 114 [some (.inr (.inr (some p))), none, none, none, none, some (.inl v5)] [] h5))))))))) := (zx_unfold zblk xs 139 83 _ rfl _ _ _).trans rfl
theorem e_X_signal_114 (xs : List Int) (p : Nat) (v5 : Int) (h : zH) : zx zblk xs 139 114 [some (.inr (.inr (some p))), none, none, none, none, some (.inl v5)] [] h = zx zblk xs 139 83 [some (.inr (.inr (some p))), none, none, none, none, some (.inl (v5 + 1))] [] h := (zx_unfold zblk xs 139 114 _ rfl _ _ _).trans rfl
theorem e_X_signal_120 (xs : List Int) (p : Nat) (h : zH) : zx zblk xs 139 120 [some (.inr (.inr (some p)))] [] h = (zgr h (some p) 6 0 fun f1 => (zck h f1 5 (zci (zx zblk xs 123 0 [some (.inr (.inr f1))] [] h) fun r3 h2 => some (some (.inl (r3 - 1)), h2)))) := (zx_unfold zblk xs 139 120 _ rfl _ _ _).trans rfl
/-- MindReaders.as(II)I -/
noncomputable abbrev r_X_as (xs : List Int) (p : Nat) (v1 : Int) (v2 : Int) (h : zH) : Option zR := zx zblk xs 140 0 [some (.inr (.inr (some p))), some (.inl v1), some (.inl v2)] [] h
theorem e_X_as_0 (xs : List Int) (p : Nat) (v1 : Int) (v2 : Int) (h : zH) : zx zblk xs 140 0 [some (.inr (.inr (some p))), some (.inl v1), some (.inl v2)] [] h = (zgr h (some p) 6 0 fun f1 => (zck h f1 5 (zci (zx zblk xs 124 0 [some (.inr (.inr f1)), some (.inl v1)] [] h) fun r3 h2 => (if zw r3 ≠ 0 then zx zblk xs 140 14 [some (.inr (.inr (some p))), some (.inl v1), some (.inl v2)] [] h2 else some (some (.inl (-101)), h2))))) := (zx_unfold zblk xs 140 0 _ rfl _ _ _).trans rfl
theorem e_X_as_14 (xs : List Int) (p : Nat) (v1 : Int) (v2 : Int) (h : zH) : zx zblk xs 140 14 [some (.inr (.inr (some p))), some (.inl v1), some (.inl v2)] [] h = (if zw v2 < 0 then zx zblk xs 140 23 [] [] h else (if zw v2 ≤ zw 4 then zx zblk xs 140 26 [some (.inr (.inr (some p))), some (.inl v1), some (.inl v2)] [] h else zx zblk xs 140 23 [] [] h)) := (zx_unfold zblk xs 140 14 _ rfl _ _ _).trans rfl
theorem e_X_as_23 (xs : List Int)  (h : zH) : zx zblk xs 140 23 [] [] h = some (some (.inl (-102)), h) := (zx_unfold zblk xs 140 23 _ rfl _ _ _).trans rfl
theorem e_X_as_26 (xs : List Int) (p : Nat) (v1 : Int) (v2 : Int) (h : zH) : zx zblk xs 140 26 [some (.inr (.inr (some p))), some (.inl v1), some (.inl v2)] [] h = (zgr h (some p) 6 0 fun f1 => (zck h f1 5 (zci (zx zblk xs 126 0 [some (.inr (.inr f1)), some (.inl v1)] [] h) fun r3 h2 => (if zw v2 = zw r3 then zx zblk xs 140 54 [none, some (.inl v1)] [] h2 else (if zw v2 = 0 then zx zblk xs 140 54 [none, some (.inl v1)] [] h2 else (if zw v2 ≠ zw 1 then zx zblk xs 140 58 [none, some (.inl v1)] [] h2 else (if zw r3 ≠ zw 2 then zx zblk xs 140 58 [none, some (.inl v1)] [] h2 else zx zblk xs 140 54 [none, some (.inl v1)] [] h2))))))) := (zx_unfold zblk xs 140 26 _ rfl _ _ _).trans rfl
theorem e_X_as_54 (xs : List Int) (v1 : Int) (h : zH) : zx zblk xs 140 54 [none, some (.inl v1)] [] h = zx zblk xs 140 59 [none, some (.inl v1)] [.inl 1] h := (zx_unfold zblk xs 140 54 _ rfl _ _ _).trans rfl
theorem e_X_as_58 (xs : List Int) (v1 : Int) (h : zH) : zx zblk xs 140 58 [none, some (.inl v1)] [] h = zx zblk xs 140 59 [none, some (.inl v1)] [.inl 0] h := (zx_unfold zblk xs 140 58 _ rfl _ _ _).trans rfl
theorem e_X_as_59 (xs : List Int) (v1 : Int) (s0 : Int) (h : zH) : zx zblk xs 140 59 [none, some (.inl v1)] [.inl s0] h = (if zw s0 = 0 then zx zblk xs 140 70 [] [] h else zx zblk xs 140 71 [] [.inl v1] h) := (zx_unfold zblk xs 140 59 _ rfl _ _ _).trans rfl
theorem e_X_as_70 (xs : List Int)  (h : zH) : zx zblk xs 140 70 [] [] h = zx zblk xs 140 71 [] [.inl (-1)] h := (zx_unfold zblk xs 140 70 _ rfl _ _ _).trans rfl
theorem e_X_as_71 (xs : List Int) (s0 : Int) (h : zH) : zx zblk xs 140 71 [] [.inl s0] h = some (some (.inl s0), h) := (zx_unfold zblk xs 140 71 _ rfl _ _ _).trans rfl
/-- MindReaders.about(II)I -/
noncomputable abbrev r_X_about (xs : List Int) (p : Nat) (v1 : Int) (v2 : Int) (h : zH) : Option zR := zx zblk xs 141 0 [some (.inr (.inr (some p))), some (.inl v1), some (.inl v2)] [] h
theorem e_X_about_0 (xs : List Int) (p : Nat) (v1 : Int) (v2 : Int) (h : zH) : zx zblk xs 141 0 [some (.inr (.inr (some p))), some (.inl v1), some (.inl v2)] [] h = (zgr h (some p) 6 0 fun f1 => (zck h f1 5 (zci (zx zblk xs 124 0 [some (.inr (.inr f1)), some (.inl v1)] [] h) fun r3 h2 => (if zw r3 ≠ 0 then zx zblk xs 141 14 [some (.inr (.inr (some p))), some (.inl v1), some (.inl v2)] [] h2 else some (some (.inl (-101)), h2))))) := (zx_unfold zblk xs 141 0 _ rfl _ _ _).trans rfl
theorem e_X_about_14 (xs : List Int) (p : Nat) (v1 : Int) (v2 : Int) (h : zH) : zx zblk xs 141 14 [some (.inr (.inr (some p))), some (.inl v1), some (.inl v2)] [] h = (if zw v2 < 0 ∨ 3 < zw v2 then zx zblk xs 141 80 [some (.inr (.inr (some p))), some (.inl v1)] [] h else zsel ([44, 53, 62, 71][(zw v2 - 0).toNat]?) fun t => zx zblk xs 141 t [some (.inr (.inr (some p))), some (.inl v1)] [] h) := (zx_unfold zblk xs 141 14 _ rfl _ _ _).trans rfl
theorem e_X_about_44 (xs : List Int) (p : Nat) (v1 : Int) (h : zH) : zx zblk xs 141 44 [some (.inr (.inr (some p))), some (.inl v1)] [] h = (zgr h (some p) 6 0 fun f1 => (zck h f1 5 (zci (zx zblk xs 126 0 [some (.inr (.inr f1)), some (.inl v1)] [] h) fun r3 h2 => some (some (.inl r3), h2)))) := (zx_unfold zblk xs 141 44 _ rfl _ _ _).trans rfl
theorem e_X_about_53 (xs : List Int) (p : Nat) (v1 : Int) (h : zH) : zx zblk xs 141 53 [some (.inr (.inr (some p))), some (.inl v1)] [] h = (zgr h (some p) 6 0 fun f1 => (zck h f1 5 (zci (zx zblk xs 127 0 [some (.inr (.inr f1)), some (.inl v1)] [] h) fun r3 h2 => some (some (.inl r3), h2)))) := (zx_unfold zblk xs 141 53 _ rfl _ _ _).trans rfl
theorem e_X_about_62 (xs : List Int) (p : Nat) (v1 : Int) (h : zH) : zx zblk xs 141 62 [some (.inr (.inr (some p))), some (.inl v1)] [] h = (zgr h (some p) 6 0 fun f1 => (zck h f1 5 (zci (zx zblk xs 128 0 [some (.inr (.inr f1)), some (.inl v1)] [] h) fun r3 h2 => some (some (.inl r3), h2)))) := (zx_unfold zblk xs 141 62 _ rfl _ _ _).trans rfl
theorem e_X_about_71 (xs : List Int) (p : Nat) (v1 : Int) (h : zH) : zx zblk xs 141 71 [some (.inr (.inr (some p))), some (.inl v1)] [] h = (zgr h (some p) 6 0 fun f1 => (zck h f1 5 (zci (zx zblk xs 129 0 [some (.inr (.inr f1)), some (.inl v1)] [] h) fun r3 h2 => some (some (.inl r3), h2)))) := (zx_unfold zblk xs 141 71 _ rfl _ _ _).trans rfl
theorem e_X_about_80 (xs : List Int) (p : Nat) (v1 : Int) (h : zH) : zx zblk xs 141 80 [some (.inr (.inr (some p))), some (.inl v1)] [] h = some (some (.inl (-102)), h) := (zx_unfold zblk xs 141 80 _ rfl _ _ _).trans rfl
/-- MindReaders.thing(I)I -/
noncomputable abbrev r_X_thing (xs : List Int) (p : Nat) (v1 : Int) (h : zH) : Option zR := zx zblk xs 142 0 [some (.inr (.inr (some p))), some (.inl v1)] [] h
theorem e_X_thing_0 (xs : List Int) (p : Nat) (v1 : Int) (h : zH) : zx zblk xs 142 0 [some (.inr (.inr (some p))), some (.inl v1)] [] h = (zci (zx zblk xs 179 0 [some (.inl v1)] [] h) fun r2 h1 => (if zw r2 ≠ 0 then zx zblk xs 142 10 [some (.inr (.inr (some p))), some (.inl v1)] [] h1 else some (some (.inl (-102)), h1))) := (zx_unfold zblk xs 142 0 _ rfl _ _ _).trans rfl
theorem e_X_thing_10 (xs : List Int) (p : Nat) (v1 : Int) (h : zH) : zx zblk xs 142 10 [some (.inr (.inr (some p))), some (.inl v1)] [] h = (zgr h (some p) 6 1 fun f1 => (zck h f1 3 (zci (zx zblk xs 106 0 [some (.inr (.inr f1))] [] h) fun r3 h2 => (if zw r3 < zw 8 then zx zblk xs 142 25 [some (.inr (.inr (some p))), some (.inl v1)] [] h2 else some (some (.inl (-104)), h2))))) := (zx_unfold zblk xs 142 10 _ rfl _ _ _).trans rfl
theorem e_X_thing_25 (xs : List Int) (p : Nat) (v1 : Int) (h : zH) : zx zblk xs 142 25 [some (.inr (.inr (some p))), some (.inl v1)] [] h = (zgr h (some p) 6 1 fun f1 => (zck h f1 3 (zcv (zx zblk xs 109 0 [some (.inr (.inr f1)), some (.inl v1)] [] h) fun h2 => (zgr h2 (some p) 6 1 fun f3 => (zck h2 f3 3 (zci (zx zblk xs 106 0 [some (.inr (.inr f3))] [] h2) fun r5 h4 => some (some (.inl (r5 - 1)), h4))))))) := (zx_unfold zblk xs 142 25 _ rfl _ _ _).trans rfl
/-- MindReaders.weigh(II)I -/
noncomputable abbrev r_X_weigh (xs : List Int) (p : Nat) (v1 : Int) (v2 : Int) (h : zH) : Option zR := zx zblk xs 143 0 [some (.inr (.inr (some p))), some (.inl v1), some (.inl v2)] [] h
theorem e_X_weigh_0 (xs : List Int) (p : Nat) (v1 : Int) (v2 : Int) (h : zH) : zx zblk xs 143 0 [some (.inr (.inr (some p))), some (.inl v1), some (.inl v2)] [] h = (zck h (some p) 6 (zci (zx zblk xs 181 0 [some (.inr (.inr (some p))), some (.inl v1)] [] h) fun r2 h1 => (if zw r2 ≠ 0 then zx zblk xs 143 11 [some (.inr (.inr (some p))), some (.inl v1), some (.inl v2)] [] h1 else some (some (.inl (-101)), h1)))) := (zx_unfold zblk xs 143 0 _ rfl _ _ _).trans rfl
theorem e_X_weigh_11 (xs : List Int) (p : Nat) (v1 : Int) (v2 : Int) (h : zH) : zx zblk xs 143 11 [some (.inr (.inr (some p))), some (.inl v1), some (.inl v2)] [] h = (zci (zx zblk xs 179 0 [some (.inl v2)] [] h) fun r2 h1 => (if zw r2 ≠ 0 then zx zblk xs 143 21 [some (.inr (.inr (some p))), some (.inl v1), some (.inl v2)] [] h1 else some (some (.inl (-102)), h1))) := (zx_unfold zblk xs 143 11 _ rfl _ _ _).trans rfl
theorem e_X_weigh_21 (xs : List Int) (p : Nat) (v1 : Int) (v2 : Int) (h : zH) : zx zblk xs 143 21 [some (.inr (.inr (some p))), some (.inl v1), some (.inl v2)] [] h = (zgr h (some p) 6 1 fun f1 => (zck h f1 3 (zci (zx zblk xs 107 0 [some (.inr (.inr f1)), some (.inl v1)] [] h) fun r3 h2 => (zgr h2 (some p) 6 1 fun f4 => (zck h2 f4 3 (zcv (zx zblk xs 108 0 [some (.inr (.inr f4)), some (.inl v1), some (.inl v2)] [] h2) fun h5 => some (some (.inl r3), h5))))))) := (zx_unfold zblk xs 143 21 _ rfl _ _ _).trans rfl
/-- MindReaders.speech(III)I -/
noncomputable abbrev r_X_speech (xs : List Int) (p : Nat) (v1 : Int) (v2 : Int) (v3 : Int) (h : zH) : Option zR := zx zblk xs 144 0 [some (.inr (.inr (some p))), some (.inl v1), some (.inl v2), some (.inl v3)] [] h
theorem e_X_speech_0 (xs : List Int) (p : Nat) (v1 : Int) (v2 : Int) (v3 : Int) (h : zH) : zx zblk xs 144 0 [some (.inr (.inr (some p))), some (.inl v1), some (.inl v2), some (.inl v3)] [] h = (zck h (some p) 6 (zcr (zx zblk xs 182 0 [some (.inr (.inr (some p))), some (.inl v1)] [] h) fun r2 h1 => (zif r2 (zx zblk xs 144 25 [] [] h1) ((if zw v2 < 0 then zx zblk xs 144 25 [] [] h1 else (zck h1 r2 0 (zci (zx zblk xs 83 0 [some (.inr (.inr r2))] [] h1) fun r4 h3 => (if zw v2 < zw r4 then zx zblk xs 144 28 [some (.inr (.inr (some p))), none, some (.inl v2), some (.inl v3), some (.inr (.inr r2))] [] h3 else zx zblk xs 144 25 [] [] h3)))))))) := (zx_unfold zblk xs 144 0 _ rfl _ _ _).trans rfl
theorem e_X_speech_25 (xs : List Int)  (h : zH) : zx zblk xs 144 25 [] [] h = some (some (.inl (-101)), h) := (zx_unfold zblk xs 144 25 _ rfl _ _ _).trans rfl
theorem e_X_speech_28 (xs : List Int) (p : Nat) (v2 : Int) (v3 : Int) (v4 : Option Nat) (h : zH) : zx zblk xs 144 28 [some (.inr (.inr (some p))), none, some (.inl v2), some (.inl v3), some (.inr (.inr v4))] [] h = (if zw v3 ≠ 0 then zx zblk xs 144 42 [some (.inr (.inr (some p))), none, some (.inl v2), some (.inl v3), some (.inr (.inr v4))] [] h else (zck h v4 0 (zcr (zx zblk xs 84 0 [some (.inr (.inr v4)), some (.inl v2)] [] h) fun r2 h1 => (zck h1 r2 3 (zci (zx zblk xs 106 0 [some (.inr (.inr r2))] [] h1) fun r4 h3 => some (some (.inl r4), h3)))))) := (zx_unfold zblk xs 144 28 _ rfl _ _ _).trans rfl
theorem e_X_speech_42 (xs : List Int) (p : Nat) (v2 : Int) (v3 : Int) (v4 : Option Nat) (h : zH) : zx zblk xs 144 42 [some (.inr (.inr (some p))), none, some (.inl v2), some (.inl v3), some (.inr (.inr v4))] [] h = (if zw v3 < zw 1 then zx zblk xs 144 65 [some (.inr (.inr (some p))), none, some (.inl v2), some (.inl v3), some (.inr (.inr v4))] [] h else (if zw 5 < zw v3 then zx zblk xs 144 65 [some (.inr (.inr (some p))), none, some (.inl v2), some (.inl v3), some (.inr (.inr v4))] [] h else (zck h v4 0 (zcr (zx zblk xs 84 0 [some (.inr (.inr v4)), some (.inl v2)] [] h) fun r2 h1 => (zck h1 r2 3 (zci (zx zblk xs 107 0 [some (.inr (.inr r2)), some (.inl (v3 - 1))] [] h1) fun r4 h3 => some (some (.inl r4), h3))))))) := (zx_unfold zblk xs 144 42 _ rfl _ _ _).trans rfl
theorem e_X_speech_65 (xs : List Int) (p : Nat) (v2 : Int) (v3 : Int) (v4 : Option Nat) (h : zH) : zx zblk xs 144 65 [some (.inr (.inr (some p))), none, some (.inl v2), some (.inl v3), some (.inr (.inr v4))] [] h = (if zw v3 ≠ zw 10 then zx zblk xs 144 81 [some (.inr (.inr (some p))), none, some (.inl v2), some (.inl v3), some (.inr (.inr v4))] [] h else (zck h v4 0 (zcr (zx zblk xs 85 0 [some (.inr (.inr v4)), some (.inl v2)] [] h) fun r2 h1 => (zck h1 r2 3 (zci (zx zblk xs 106 0 [some (.inr (.inr r2))] [] h1) fun r4 h3 => some (some (.inl r4), h3)))))) := (zx_unfold zblk xs 144 65 _ rfl _ _ _).trans rfl
theorem e_X_speech_81 (xs : List Int) (p : Nat) (v2 : Int) (v3 : Int) (v4 : Option Nat) (h : zH) : zx zblk xs 144 81 [some (.inr (.inr (some p))), none, some (.inl v2), some (.inl v3), some (.inr (.inr v4))] [] h = (if zw v3 ≤ zw 10 then zx zblk xs 144 107 [some (.inr (.inr (some p))), none, some (.inl v2), some (.inl v3), some (.inr (.inr v4))] [] h else (if zw 20 < zw v3 then zx zblk xs 144 107 [some (.inr (.inr (some p))), none, some (.inl v2), some (.inl v3), some (.inr (.inr v4))] [] h else (zck h v4 0 (zcr (zx zblk xs 85 0 [some (.inr (.inr v4)), some (.inl v2)] [] h) fun r2 h1 => (zck h1 r2 3 (zci (zx zblk xs 107 0 [some (.inr (.inr r2)), some (.inl (v3 - 11))] [] h1) fun r4 h3 => some (some (.inl r4), h3))))))) := (zx_unfold zblk xs 144 81 _ rfl _ _ _).trans rfl
theorem e_X_speech_107 (xs : List Int) (p : Nat) (v2 : Int) (v3 : Int) (v4 : Option Nat) (h : zH) : zx zblk xs 144 107 [some (.inr (.inr (some p))), none, some (.inl v2), some (.inl v3), some (.inr (.inr v4))] [] h = (if zw v3 ≠ zw 30 then zx zblk xs 144 123 [] [] h else (zck h (some p) 6 (zci (zx zblk xs 184 0 [some (.inr (.inr (some p))), some (.inr (.inr v4)), some (.inl v2)] [] h) fun r2 h1 => zx zblk xs 144 125 [] [.inl r2] h1))) := (zx_unfold zblk xs 144 107 _ rfl _ _ _).trans rfl
theorem e_X_speech_123 (xs : List Int)  (h : zH) : zx zblk xs 144 123 [] [] h = zx zblk xs 144 125 [] [.inl (-102)] h := (zx_unfold zblk xs 144 123 _ rfl _ _ _).trans rfl
theorem e_X_speech_125 (xs : List Int) (s0 : Int) (h : zH) : zx zblk xs 144 125 [] [.inl s0] h = some (some (.inl s0), h) := (zx_unfold zblk xs 144 125 _ rfl _ _ _).trans rfl
/-- MindReaders.means(I)I -/
noncomputable abbrev r_X_means (xs : List Int) (p : Nat) (v1 : Int) (h : zH) : Option zR := zx zblk xs 145 0 [some (.inr (.inr (some p))), some (.inl v1)] [] h
theorem e_X_means_0 (xs : List Int) (p : Nat) (v1 : Int) (h : zH) : zx zblk xs 145 0 [some (.inr (.inr (some p))), some (.inl v1)] [] h = (zck h (some p) 6 (zcr (zx zblk xs 182 0 [some (.inr (.inr (some p))), some (.inl v1)] [] h) fun r2 h1 => (zif r2 (some (some (.inl (-101)), h1)) (zx zblk xs 145 13 [some (.inr (.inr (some p))), none, some (.inr (.inr r2))] [] h1)))) := (zx_unfold zblk xs 145 0 _ rfl _ _ _).trans rfl
theorem e_X_means_13 (xs : List Int) (p : Nat) (v2 : Option Nat) (h : zH) : zx zblk xs 145 13 [some (.inr (.inr (some p))), none, some (.inr (.inr v2))] [] h = (zck h (some p) 6 (zci (zx zblk xs 178 0 [some (.inr (.inr (some p)))] [] h) fun r2 h1 => (if zw r2 = 0 then zx zblk xs 145 31 [] [] h1 else (zgr h1 (some p) 6 10 fun f3 => (zck h1 v2 0 (zci (zx zblk xs 88 0 [some (.inr (.inr v2)), some (.inr (.inr f3))] [] h1) fun r5 h4 => zx zblk xs 145 33 [] [.inl r5] h4)))))) := (zx_unfold zblk xs 145 13 _ rfl _ _ _).trans rfl
theorem e_X_means_31 (xs : List Int)  (h : zH) : zx zblk xs 145 31 [] [] h = zx zblk xs 145 33 [] [.inl (-103)] h := (zx_unfold zblk xs 145 31 _ rfl _ _ _).trans rfl
theorem e_X_means_33 (xs : List Int) (s0 : Int) (h : zH) : zx zblk xs 145 33 [] [.inl s0] h = some (some (.inl s0), h) := (zx_unfold zblk xs 145 33 _ rfl _ _ _).trans rfl
/-- MindReaders.clear(II)I -/
noncomputable abbrev r_X_clear (xs : List Int) (p : Nat) (v1 : Int) (v2 : Int) (h : zH) : Option zR := zx zblk xs 146 0 [some (.inr (.inr (some p))), some (.inl v1), some (.inl v2)] [] h
theorem e_X_clear_0 (xs : List Int) (p : Nat) (v1 : Int) (v2 : Int) (h : zH) : zx zblk xs 146 0 [some (.inr (.inr (some p))), some (.inl v1), some (.inl v2)] [] h = (zck h (some p) 6 (zcr (zx zblk xs 182 0 [some (.inr (.inr (some p))), some (.inl v1)] [] h) fun r2 h1 => (zif r2 (some (some (.inl (-101)), h1)) (zx zblk xs 146 13 [none, none, some (.inl v2), some (.inr (.inr r2))] [] h1)))) := (zx_unfold zblk xs 146 0 _ rfl _ _ _).trans rfl
theorem e_X_clear_13 (xs : List Int) (v2 : Int) (v3 : Option Nat) (h : zH) : zx zblk xs 146 13 [none, none, some (.inl v2), some (.inr (.inr v3))] [] h = (if zw v2 < 0 then zx zblk xs 146 22 [] [] h else (if zw v2 ≤ zw 2 then zx zblk xs 146 25 [none, none, some (.inl v2), some (.inr (.inr v3))] [] h else zx zblk xs 146 22 [] [] h)) := (zx_unfold zblk xs 146 13 _ rfl _ _ _).trans rfl
theorem e_X_clear_22 (xs : List Int)  (h : zH) : zx zblk xs 146 22 [] [] h = some (some (.inl (-102)), h) := (zx_unfold zblk xs 146 22 _ rfl _ _ _).trans rfl
theorem e_X_clear_25 (xs : List Int) (v2 : Int) (v3 : Option Nat) (h : zH) : zx zblk xs 146 25 [none, none, some (.inl v2), some (.inr (.inr v3))] [] h = (zck h v3 0 (zci (zx zblk xs 89 0 [some (.inr (.inr v3))] [] h) fun r2 h1 => (if zw v2 ≠ 0 then zx zblk xs 146 47 [none, none, some (.inl v2), none, some (.inl r2)] [] h1 else (if zw r2 ≠ zw (-1) then zx zblk xs 146 45 [] [] h1 else zx zblk xs 146 46 [] [.inl 1] h1)))) := (zx_unfold zblk xs 146 25 _ rfl _ _ _).trans rfl
theorem e_X_clear_45 (xs : List Int)  (h : zH) : zx zblk xs 146 45 [] [] h = zx zblk xs 146 46 [] [.inl 0] h := (zx_unfold zblk xs 146 45 _ rfl _ _ _).trans rfl
theorem e_X_clear_46 (xs : List Int) (s0 : Int) (h : zH) : zx zblk xs 146 46 [] [.inl s0] h = some (some (.inl s0), h) := (zx_unfold zblk xs 146 46 _ rfl _ _ _).trans rfl
theorem e_X_clear_47 (xs : List Int) (v2 : Int) (v4 : Int) (h : zH) : zx zblk xs 146 47 [none, none, some (.inl v2), none, some (.inl v4)] [] h = (zci (zx zblk xs 185 0 [some (.inl v4), some (.inl (v2 - 1))] [] h) fun r2 h1 => some (some (.inl r2), h1)) := (zx_unfold zblk xs 146 47 _ rfl _ _ _).trans rfl
/-- MindReaders.starts(II)I -/
noncomputable abbrev r_X_starts (xs : List Int) (p : Nat) (v1 : Int) (v2 : Int) (h : zH) : Option zR := zx zblk xs 147 0 [some (.inr (.inr (some p))), some (.inl v1), some (.inl v2)] [] h
theorem e_X_starts_0 (xs : List Int) (p : Nat) (v1 : Int) (v2 : Int) (h : zH) : zx zblk xs 147 0 [some (.inr (.inr (some p))), some (.inl v1), some (.inl v2)] [] h = (zck h (some p) 6 (zcr (zx zblk xs 182 0 [some (.inr (.inr (some p))), some (.inl v1)] [] h) fun r2 h1 => (zif r2 (some (some (.inl (-101)), h1)) (zx zblk xs 147 13 [none, none, some (.inl v2), some (.inr (.inr r2))] [] h1)))) := (zx_unfold zblk xs 147 0 _ rfl _ _ _).trans rfl
theorem e_X_starts_13 (xs : List Int) (v2 : Int) (v3 : Option Nat) (h : zH) : zx zblk xs 147 13 [none, none, some (.inl v2), some (.inr (.inr v3))] [] h = (if zw v2 < 0 then zx zblk xs 147 22 [] [] h else (if zw v2 ≤ zw 1 then zx zblk xs 147 25 [none, none, some (.inl v2), some (.inr (.inr v3))] [] h else zx zblk xs 147 22 [] [] h)) := (zx_unfold zblk xs 147 13 _ rfl _ _ _).trans rfl
theorem e_X_starts_22 (xs : List Int)  (h : zH) : zx zblk xs 147 22 [] [] h = some (some (.inl (-102)), h) := (zx_unfold zblk xs 147 22 _ rfl _ _ _).trans rfl
theorem e_X_starts_25 (xs : List Int) (v2 : Int) (v3 : Option Nat) (h : zH) : zx zblk xs 147 25 [none, none, some (.inl v2), some (.inr (.inr v3))] [] h = (zck h v3 0 (zci (zx zblk xs 90 0 [some (.inr (.inr v3))] [] h) fun r2 h1 => (zci (zx zblk xs 185 0 [some (.inl r2), some (.inl v2)] [] h1) fun r4 h3 => some (some (.inl r4), h3)))) := (zx_unfold zblk xs 147 25 _ rfl _ _ _).trans rfl
/-- MindReaders.twice(I)I -/
noncomputable abbrev r_X_twice (xs : List Int) (p : Nat) (v1 : Int) (h : zH) : Option zR := zx zblk xs 148 0 [some (.inr (.inr (some p))), some (.inl v1)] [] h
theorem e_X_twice_0 (xs : List Int) (p : Nat) (v1 : Int) (h : zH) : zx zblk xs 148 0 [some (.inr (.inr (some p))), some (.inl v1)] [] h = (zck h (some p) 6 (zcr (zx zblk xs 182 0 [some (.inr (.inr (some p))), some (.inl v1)] [] h) fun r2 h1 => (zif r2 (zx zblk xs 148 23 [] [.inl (-101)] h1) (zx zblk xs 148 15 [some (.inr (.inr (some p))), none, some (.inr (.inr r2))] [] h1)))) := (zx_unfold zblk xs 148 0 _ rfl _ _ _).trans rfl
theorem e_X_twice_15 (xs : List Int) (p : Nat) (v2 : Option Nat) (h : zH) : zx zblk xs 148 15 [some (.inr (.inr (some p))), none, some (.inr (.inr v2))] [] h = (zgr h (some p) 6 13 fun f1 => (zck h f1 2 (zci (zx zblk xs 101 0 [some (.inr (.inr f1)), some (.inr (.inr v2))] [] h) fun r3 h2 => zx zblk xs 148 23 [] [.inl r3] h2))) := (zx_unfold zblk xs 148 15 _ rfl _ _ _).trans rfl
theorem e_X_twice_23 (xs : List Int) (s0 : Int) (h : zH) : zx zblk xs 148 23 [] [.inl s0] h = some (some (.inl s0), h) := (zx_unfold zblk xs 148 23 _ rfl _ _ _).trans rfl
/-- MindReaders.mean(II)I -/
noncomputable abbrev r_X_mean (xs : List Int) (p : Nat) (v1 : Int) (v2 : Int) (h : zH) : Option zR := zx zblk xs 149 0 [some (.inr (.inr (some p))), some (.inl v1), some (.inl v2)] [] h
theorem e_X_mean_0 (xs : List Int) (p : Nat) (v1 : Int) (v2 : Int) (h : zH) : zx zblk xs 149 0 [some (.inr (.inr (some p))), some (.inl v1), some (.inl v2)] [] h = (zck h (some p) 6 (zcr (zx zblk xs 182 0 [some (.inr (.inr (some p))), some (.inl v1)] [] h) fun r2 h1 => (zif r2 (some (some (.inl (-101)), h1)) (zx zblk xs 149 13 [some (.inr (.inr (some p))), none, some (.inl v2), some (.inr (.inr r2))] [] h1)))) := (zx_unfold zblk xs 149 0 _ rfl _ _ _).trans rfl
theorem e_X_mean_13 (xs : List Int) (p : Nat) (v2 : Int) (v3 : Option Nat) (h : zH) : zx zblk xs 149 13 [some (.inr (.inr (some p))), none, some (.inl v2), some (.inr (.inr v3))] [] h = (zci (zx zblk xs 180 0 [some (.inl v2)] [] h) fun r2 h1 => (if zw r2 ≠ 0 then zx zblk xs 149 23 [some (.inr (.inr (some p))), none, some (.inl v2), some (.inr (.inr v3))] [] h1 else some (some (.inl (-102)), h1))) := (zx_unfold zblk xs 149 13 _ rfl _ _ _).trans rfl
theorem e_X_mean_23 (xs : List Int) (p : Nat) (v2 : Int) (v3 : Option Nat) (h : zH) : zx zblk xs 149 23 [some (.inr (.inr (some p))), none, some (.inl v2), some (.inr (.inr v3))] [] h = (zck h (some p) 6 (zci (zx zblk xs 183 0 [some (.inr (.inr (some p))), some (.inr (.inr v3))] [] h) fun r2 h1 => (if zw r2 ≠ 0 then zx zblk xs 149 38 [some (.inr (.inr (some p))), none, some (.inl v2), some (.inr (.inr v3)), some (.inl r2)] [] h1 else some (some (.inl (-103)), h1)))) := (zx_unfold zblk xs 149 23 _ rfl _ _ _).trans rfl
theorem e_X_mean_38 (xs : List Int) (p : Nat) (v2 : Int) (v3 : Option Nat) (v4 : Int) (h : zH) : zx zblk xs 149 38 [some (.inr (.inr (some p))), none, some (.inl v2), some (.inr (.inr v3)), some (.inl v4)] [] h = zx zblk xs 149 44 [some (.inr (.inr (some p))), none, some (.inl v2), some (.inr (.inr v3)), some (.inl v4), some (.inr (.inl 0)), none, some (.inl 0)] [] h := (zx_unfold zblk xs 149 38 _ rfl _ _ _).trans rfl
theorem e_X_mean_44 (xs : List Int) (p : Nat) (v2 : Int) (v3 : Option Nat) (v4 : Int) (v5 : Int) (v7 : Int) (h : zH) : zx zblk xs 149 44 [some (.inr (.inr (some p))), none, some (.inl v2), some (.inr (.inr v3)), some (.inl v4), some (.inr (.inl v5)), none, some (.inl v7)] [] h = (if zw v4 ≤ zw v7 then zx zblk xs 149 80 [some (.inr (.inr (some p))), none, some (.inl v2), none, some (.inl v4), some (.inr (.inl v5))] [] h else (zgr h (some p) 6 1 fun f1 => (zck h f1 3 (zci (zx zblk xs 107 0 [some (.inr (.inr f1)), some (.inl v7)] [] h) fun r3 h2 => (zck h2 (some p) 6 (zci (zx zblk xs 184 0 [some (.inr (.inr (some p))), some (.inr (.inr v3)), some (.inl v7)] [] h2) fun r5 h4 => zx zblk xs 149 44 [some (.inr (.inr (some p))), none, some (.inl v2), some (.inr (.inr v3)), some (.inl v4), some (.inr (.inl (v5 + (zw (r3 * r5))))), none, some (.inl (v7 + 1))] [] h4)))))) := (zx_unfold zblk xs 149 44 _ rfl _ _ _).trans rfl
theorem e_X_mean_80 (xs : List Int) (p : Nat) (v2 : Int) (v4 : Int) (v5 : Int) (h : zH) : zx zblk xs 149 80 [some (.inr (.inr (some p))), none, some (.inl v2), none, some (.inl v4), some (.inr (.inl v5))] [] h = (zgr h (some p) 6 1 fun f1 => (zck h f1 3 (zci (zx zblk xs 117 0 [some (.inr (.inr f1)), some (.inl v4)] [] h) fun r3 h2 => (zcl (zx zblk xs 197 0 [some (.inr (.inl v5)), none, some (.inr (.inl (zw r3))), none, some (.inl v2)] [] h2) fun r5 h4 => some (some (.inl r5), h4))))) := (zx_unfold zblk xs 149 80 _ rfl _ _ _).trans rfl
/-- MindReaders.oddness(I)I -/
noncomputable abbrev r_X_oddness (xs : List Int) (p : Nat) (v1 : Int) (h : zH) : Option zR := zx zblk xs 150 0 [some (.inr (.inr (some p))), some (.inl v1)] [] h
theorem e_X_oddness_0 (xs : List Int) (p : Nat) (v1 : Int) (h : zH) : zx zblk xs 150 0 [some (.inr (.inr (some p))), some (.inl v1)] [] h = (zck h (some p) 6 (zcr (zx zblk xs 182 0 [some (.inr (.inr (some p))), some (.inl v1)] [] h) fun r2 h1 => (zif r2 (some (some (.inl (-101)), h1)) (zx zblk xs 150 13 [some (.inr (.inr (some p))), none, some (.inr (.inr r2))] [] h1)))) := (zx_unfold zblk xs 150 0 _ rfl _ _ _).trans rfl
theorem e_X_oddness_13 (xs : List Int) (p : Nat) (v2 : Option Nat) (h : zH) : zx zblk xs 150 13 [some (.inr (.inr (some p))), none, some (.inr (.inr v2))] [] h = (zck h (some p) 6 (zci (zx zblk xs 183 0 [some (.inr (.inr (some p))), some (.inr (.inr v2))] [] h) fun r2 h1 => zx zblk xs 150 25 [some (.inr (.inr (some p))), none, some (.inr (.inr v2)), some (.inl r2), some (.inl 0), some (.inl 0)] [] h1)) := (zx_unfold zblk xs 150 13 _ rfl _ _ _).trans rfl
theorem e_X_oddness_25 (xs : List Int) (p : Nat) (v2 : Option Nat) (v3 : Int) (v4 : Int) (v5 : Int) (h : zH) : zx zblk xs 150 25 [some (.inr (.inr (some p))), none, some (.inr (.inr v2)), some (.inl v3), some (.inl v4), some (.inl v5)] [] h = (if zw v3 ≤ zw v5 then zx zblk xs 150 65 [none, none, none, none, some (.inl v4)] [] h else (zgr h (some p) 6 1 fun f1 => (zck h f1 3 (zci (zx zblk xs 107 0 [some (.inr (.inr f1)), some (.inl v5)] [] h) fun r3 h2 => (zgr h2 (some p) 6 0 fun f4 => (zck h2 v2 0 (zcr (zx zblk xs 84 0 [some (.inr (.inr v2)), some (.inl v5)] [] h2) fun r6 h5 => (zck h5 f4 5 (zci (zx zblk xs 132 0 [some (.inr (.inr f4)), some (.inr (.inr r6))] [] h5) fun r8 h7 => zx zblk xs 150 25 [some (.inr (.inr (some p))), none, some (.inr (.inr v2)), some (.inl v3), some (.inl (v4 + (r3 * r8))), some (.inl (v5 + 1))] [] h7))))))))) := (zx_unfold zblk xs 150 25 _ rfl _ _ _).trans rfl
theorem e_X_oddness_65 (xs : List Int) (v4 : Int) (h : zH) : zx zblk xs 150 65 [none, none, none, none, some (.inl v4)] [] h = some (some (.inl v4), h) := (zx_unfold zblk xs 150 65 _ rfl _ _ _).trans rfl
/-- MindReaders.dealt(II)I -/
noncomputable abbrev r_X_dealt (xs : List Int) (p : Nat) (v1 : Int) (v2 : Int) (h : zH) : Option zR := zx zblk xs 151 0 [some (.inr (.inr (some p))), some (.inl v1), some (.inl v2)] [] h
theorem e_X_dealt_0 (xs : List Int) (p : Nat) (v1 : Int) (v2 : Int) (h : zH) : zx zblk xs 151 0 [some (.inr (.inr (some p))), some (.inl v1), some (.inl v2)] [] h = (zck h (some p) 6 (zcr (zx zblk xs 182 0 [some (.inr (.inr (some p))), some (.inl v1)] [] h) fun r2 h1 => (zif r2 (some (some (.inl (-101)), h1)) (zx zblk xs 151 13 [some (.inr (.inr (some p))), none, some (.inl v2), some (.inr (.inr r2))] [] h1)))) := (zx_unfold zblk xs 151 0 _ rfl _ _ _).trans rfl
theorem e_X_dealt_13 (xs : List Int) (p : Nat) (v2 : Int) (v3 : Option Nat) (h : zH) : zx zblk xs 151 13 [some (.inr (.inr (some p))), none, some (.inl v2), some (.inr (.inr v3))] [] h = (zci (zx zblk xs 180 0 [some (.inl v2)] [] h) fun r2 h1 => (if zw r2 ≠ 0 then zx zblk xs 151 35 [some (.inr (.inr (some p))), none, some (.inl v2), some (.inr (.inr v3))] [] h1 else (if zw v2 < zw 10 then zx zblk xs 151 32 [] [] h1 else (if zw v2 < zw 18 then zx zblk xs 151 35 [some (.inr (.inr (some p))), none, some (.inl v2), some (.inr (.inr v3))] [] h1 else zx zblk xs 151 32 [] [] h1)))) := (zx_unfold zblk xs 151 13 _ rfl _ _ _).trans rfl
theorem e_X_dealt_32 (xs : List Int)  (h : zH) : zx zblk xs 151 32 [] [] h = some (some (.inl (-102)), h) := (zx_unfold zblk xs 151 32 _ rfl _ _ _).trans rfl
theorem e_X_dealt_35 (xs : List Int) (p : Nat) (v2 : Int) (v3 : Option Nat) (h : zH) : zx zblk xs 151 35 [some (.inr (.inr (some p))), none, some (.inl v2), some (.inr (.inr v3))] [] h = (zck h (some p) 6 (zci (zx zblk xs 183 0 [some (.inr (.inr (some p))), some (.inr (.inr v3))] [] h) fun r2 h1 => (if zw r2 ≠ 0 then zx zblk xs 151 50 [some (.inr (.inr (some p))), none, some (.inl v2), some (.inr (.inr v3)), some (.inl r2)] [] h1 else some (some (.inl (-103)), h1)))) := (zx_unfold zblk xs 151 35 _ rfl _ _ _).trans rfl
theorem e_X_dealt_50 (xs : List Int) (p : Nat) (v2 : Int) (v3 : Option Nat) (v4 : Int) (h : zH) : zx zblk xs 151 50 [some (.inr (.inr (some p))), none, some (.inl v2), some (.inr (.inr v3)), some (.inl v4)] [] h = (if zw v2 < zw 10 then zx zblk xs 151 66 [some (.inr (.inr (some p))), none, some (.inl v2), some (.inr (.inr v3)), some (.inl v4)] [] h else (zck h (some p) 6 (zci (zx zblk xs 186 0 [some (.inr (.inr (some p))), some (.inr (.inr v3)), some (.inl (v2 - 10))] [] h) fun r2 h1 => some (some (.inl r2), h1)))) := (zx_unfold zblk xs 151 50 _ rfl _ _ _).trans rfl
theorem e_X_dealt_66 (xs : List Int) (p : Nat) (v2 : Int) (v3 : Option Nat) (v4 : Int) (h : zH) : zx zblk xs 151 66 [some (.inr (.inr (some p))), none, some (.inl v2), some (.inr (.inr v3)), some (.inl v4)] [] h = zx zblk xs 151 72 [some (.inr (.inr (some p))), none, some (.inl v2), some (.inr (.inr v3)), some (.inl v4), some (.inr (.inl 0)), none, some (.inl 0)] [] h := (zx_unfold zblk xs 151 66 _ rfl _ _ _).trans rfl
theorem e_X_dealt_72 (xs : List Int) (p : Nat) (v2 : Int) (v3 : Option Nat) (v4 : Int) (v5 : Int) (v7 : Int) (h : zH) : zx zblk xs 151 72 [some (.inr (.inr (some p))), none, some (.inl v2), some (.inr (.inr v3)), some (.inl v4), some (.inr (.inl v5)), none, some (.inl v7)] [] h = (if zw v4 ≤ zw v7 then zx zblk xs 151 113 [some (.inr (.inr (some p))), none, some (.inl v2), none, some (.inl v4), some (.inr (.inl v5))] [] h else (zgr h (some p) 6 1 fun f1 => (zck h f1 3 (zci (zx zblk xs 107 0 [some (.inr (.inr f1)), some (.inl v7)] [] h) fun r3 h2 => (zck h2 (some p) 6 (zci (zx zblk xs 186 0 [some (.inr (.inr (some p))), some (.inr (.inr v3)), some (.inl v7)] [] h2) fun r5 h4 => (zck h4 (some p) 6 (zci (zx zblk xs 184 0 [some (.inr (.inr (some p))), some (.inr (.inr v3)), some (.inl r5)] [] h4) fun r7 h6 => zx zblk xs 151 72 [some (.inr (.inr (some p))), none, some (.inl v2), some (.inr (.inr v3)), some (.inl v4), some (.inr (.inl (v5 + (zw (r3 * r7))))), none, some (.inl (v7 + 1))] [] h6)))))))) := (zx_unfold zblk xs 151 72 _ rfl _ _ _).trans rfl
theorem e_X_dealt_113 (xs : List Int) (p : Nat) (v2 : Int) (v4 : Int) (v5 : Int) (h : zH) : zx zblk xs 151 113 [some (.inr (.inr (some p))), none, some (.inl v2), none, some (.inl v4), some (.inr (.inl v5))] [] h = (zgr h (some p) 6 1 fun f1 => (zck h f1 3 (zci (zx zblk xs 117 0 [some (.inr (.inr f1)), some (.inl v4)] [] h) fun r3 h2 => (zcl (zx zblk xs 197 0 [some (.inr (.inl v5)), none, some (.inr (.inl (zw r3))), none, some (.inl v2)] [] h2) fun r5 h4 => some (some (.inl r5), h4))))) := (zx_unfold zblk xs 151 113 _ rfl _ _ _).trans rfl
/-- MindReaders.shortest(II)I -/
noncomputable abbrev r_X_shortest (xs : List Int) (p : Nat) (v1 : Int) (v2 : Int) (h : zH) : Option zR := zx zblk xs 152 0 [some (.inr (.inr (some p))), some (.inl v1), some (.inl v2)] [] h
theorem e_X_shortest_0 (xs : List Int) (p : Nat) (v1 : Int) (v2 : Int) (h : zH) : zx zblk xs 152 0 [some (.inr (.inr (some p))), some (.inl v1), some (.inl v2)] [] h = (if zw v1 < zw 2 then zx zblk xs 152 18 [] [] h else (if zw 8 < zw v1 then zx zblk xs 152 18 [] [] h else (zci (zx zblk xs 180 0 [some (.inl v2)] [] h) fun r2 h1 => (if zw r2 ≠ 0 then zx zblk xs 152 21 [some (.inr (.inr (some p))), some (.inl v1), some (.inl v2)] [] h1 else zx zblk xs 152 18 [] [] h1)))) := (zx_unfold zblk xs 152 0 _ rfl _ _ _).trans rfl
theorem e_X_shortest_18 (xs : List Int)  (h : zH) : zx zblk xs 152 18 [] [] h = some (some (.inl (-102)), h) := (zx_unfold zblk xs 152 18 _ rfl _ _ _).trans rfl
theorem e_X_shortest_21 (xs : List Int) (p : Nat) (v1 : Int) (v2 : Int) (h : zH) : zx zblk xs 152 21 [some (.inr (.inr (some p))), some (.inl v1), some (.inl v2)] [] h = (zgr h (some p) 6 1 fun f1 => (zck h f1 3 (zci (zx zblk xs 106 0 [some (.inr (.inr f1))] [] h) fun r3 h2 => (if zw r3 ≠ 0 then zx zblk xs 152 34 [some (.inr (.inr (some p))), some (.inl v1), some (.inl v2)] [] h2 else some (some (.inl (-103)), h2))))) := (zx_unfold zblk xs 152 21 _ rfl _ _ _).trans rfl
theorem e_X_shortest_34 (xs : List Int) (p : Nat) (v1 : Int) (v2 : Int) (h : zH) : zx zblk xs 152 34 [some (.inr (.inr (some p))), some (.inl v1), some (.inl v2)] [] h = (zck h (some p) 6 (zcl (zx zblk xs 191 0 [some (.inr (.inr (some p))), some (.inl v1)] [] h) fun r2 h1 => (zgr h1 (some p) 6 1 fun f3 => (zgr h1 (some p) 6 1 fun f4 => (zck h1 f4 3 (zci (zx zblk xs 106 0 [some (.inr (.inr f4))] [] h1) fun r6 h5 => (zck h5 f3 3 (zci (zx zblk xs 117 0 [some (.inr (.inr f3)), some (.inl r6)] [] h5) fun r8 h7 => (zcl (zx zblk xs 197 0 [some (.inr (.inl r2)), none, some (.inr (.inl (zw r8))), none, some (.inl v2)] [] h7) fun r10 h9 => some (some (.inl r10), h9)))))))))) := (zx_unfold zblk xs 152 34 _ rfl _ _ _).trans rfl
/-- MindReaders.apart(I)I -/
noncomputable abbrev r_X_apart (xs : List Int) (p : Nat) (v1 : Int) (h : zH) : Option zR := zx zblk xs 153 0 [some (.inr (.inr (some p))), some (.inl v1)] [] h
theorem e_X_apart_0 (xs : List Int) (p : Nat) (v1 : Int) (h : zH) : zx zblk xs 153 0 [some (.inr (.inr (some p))), some (.inl v1)] [] h = (zck h (some p) 6 (zcr (zx zblk xs 182 0 [some (.inr (.inr (some p))), some (.inl v1)] [] h) fun r2 h1 => (zif r2 (zx zblk xs 153 19 [] [.inl (-101)] h1) (zx zblk xs 153 15 [none, none, some (.inr (.inr r2))] [] h1)))) := (zx_unfold zblk xs 153 0 _ rfl _ _ _).trans rfl
theorem e_X_apart_15 (xs : List Int) (v2 : Option Nat) (h : zH) : zx zblk xs 153 15 [none, none, some (.inr (.inr v2))] [] h = (zck h v2 0 (zci (zx zblk xs 91 0 [some (.inr (.inr v2))] [] h) fun r2 h1 => zx zblk xs 153 19 [] [.inl r2] h1)) := (zx_unfold zblk xs 153 15 _ rfl _ _ _).trans rfl
theorem e_X_apart_19 (xs : List Int) (s0 : Int) (h : zH) : zx zblk xs 153 19 [] [.inl s0] h = some (some (.inl s0), h) := (zx_unfold zblk xs 153 19 _ rfl _ _ _).trans rfl
/-- MindReaders.named(I)I -/
noncomputable abbrev r_X_named (xs : List Int) (p : Nat) (v1 : Int) (h : zH) : Option zR := zx zblk xs 154 0 [some (.inr (.inr (some p))), some (.inl v1)] [] h
theorem e_X_named_0 (xs : List Int) (p : Nat) (v1 : Int) (h : zH) : zx zblk xs 154 0 [some (.inr (.inr (some p))), some (.inl v1)] [] h = (zck h (some p) 6 (zcr (zx zblk xs 182 0 [some (.inr (.inr (some p))), some (.inl v1)] [] h) fun r2 h1 => (zif r2 (some (some (.inl (-101)), h1)) (zx zblk xs 154 13 [some (.inr (.inr (some p))), none, some (.inr (.inr r2))] [] h1)))) := (zx_unfold zblk xs 154 0 _ rfl _ _ _).trans rfl
theorem e_X_named_13 (xs : List Int) (p : Nat) (v2 : Option Nat) (h : zH) : zx zblk xs 154 13 [some (.inr (.inr (some p))), none, some (.inr (.inr v2))] [] h = (zck h (some p) 6 (zci (zx zblk xs 178 0 [some (.inr (.inr (some p)))] [] h) fun r2 h1 => (if zw r2 = 0 then zx zblk xs 154 31 [] [] h1 else (zgr h1 (some p) 6 10 fun f3 => (zck h1 v2 0 (zci (zx zblk xs 92 0 [some (.inr (.inr v2)), some (.inr (.inr f3))] [] h1) fun r5 h4 => zx zblk xs 154 33 [] [.inl r5] h4)))))) := (zx_unfold zblk xs 154 13 _ rfl _ _ _).trans rfl
theorem e_X_named_31 (xs : List Int)  (h : zH) : zx zblk xs 154 31 [] [] h = zx zblk xs 154 33 [] [.inl (-103)] h := (zx_unfold zblk xs 154 31 _ rfl _ _ _).trans rfl
theorem e_X_named_33 (xs : List Int) (s0 : Int) (h : zH) : zx zblk xs 154 33 [] [.inl s0] h = some (some (.inl s0), h) := (zx_unfold zblk xs 154 33 _ rfl _ _ _).trans rfl
/-- MindReaders.right(IIIII)J -/
noncomputable abbrev r_X_right (xs : List Int) (p : Nat) (v1 : Int) (v2 : Int) (v3 : Int) (v4 : Int) (v5 : Int) (h : zH) : Option zR := zx zblk xs 155 0 [some (.inr (.inr (some p))), some (.inl v1), some (.inl v2), some (.inl v3), some (.inl v4), some (.inl v5)] [] h
theorem e_X_right_0 (xs : List Int) (p : Nat) (v1 : Int) (v2 : Int) (v3 : Int) (v4 : Int) (v5 : Int) (h : zH) : zx zblk xs 155 0 [some (.inr (.inr (some p))), some (.inl v1), some (.inl v2), some (.inl v3), some (.inl v4), some (.inl v5)] [] h = (zck h (some p) 6 (zcr (zx zblk xs 182 0 [some (.inr (.inr (some p))), some (.inl v1)] [] h) fun r2 h1 => (zif r2 (zx zblk xs 155 26 [] [] h1) ((if zw v2 < 0 then zx zblk xs 155 26 [] [] h1 else (zck h1 (some p) 6 (zci (zx zblk xs 183 0 [some (.inr (.inr (some p))), some (.inr (.inr r2))] [] h1) fun r4 h3 => (if zw v2 < zw r4 then zx zblk xs 155 30 [some (.inr (.inr (some p))), none, some (.inl v2), some (.inl v3), some (.inl v4), some (.inl v5), some (.inr (.inr r2))] [] h3 else zx zblk xs 155 26 [] [] h3)))))))) := (zx_unfold zblk xs 155 0 _ rfl _ _ _).trans rfl
theorem e_X_right_26 (xs : List Int)  (h : zH) : zx zblk xs 155 26 [] [] h = some (some (.inr (.inl (-101))), h) := (zx_unfold zblk xs 155 26 _ rfl _ _ _).trans rfl
theorem e_X_right_30 (xs : List Int) (p : Nat) (v2 : Int) (v3 : Int) (v4 : Int) (v5 : Int) (v6 : Option Nat) (h : zH) : zx zblk xs 155 30 [some (.inr (.inr (some p))), none, some (.inl v2), some (.inl v3), some (.inl v4), some (.inl v5), some (.inr (.inr v6))] [] h = (if zw v3 < zw 2 then zx zblk xs 155 61 [] [] h else (if zw 8 < zw v3 then zx zblk xs 155 61 [] [] h else (if zw v4 < 0 then zx zblk xs 155 61 [] [] h else (if zw 10 < zw v4 then zx zblk xs 155 61 [] [] h else (zci (zx zblk xs 180 0 [some (.inl v5)] [] h) fun r2 h1 => (if zw r2 ≠ 0 then zx zblk xs 155 65 [some (.inr (.inr (some p))), none, some (.inl v2), some (.inl v3), some (.inl v4), some (.inl v5), some (.inr (.inr v6))] [] h1 else zx zblk xs 155 61 [] [] h1)))))) := (zx_unfold zblk xs 155 30 _ rfl _ _ _).trans rfl
theorem e_X_right_61 (xs : List Int)  (h : zH) : zx zblk xs 155 61 [] [] h = some (some (.inr (.inl (-102))), h) := (zx_unfold zblk xs 155 61 _ rfl _ _ _).trans rfl
theorem e_X_right_65 (xs : List Int) (p : Nat) (v2 : Int) (v3 : Int) (v4 : Int) (v5 : Int) (v6 : Option Nat) (h : zH) : zx zblk xs 155 65 [some (.inr (.inr (some p))), none, some (.inl v2), some (.inl v3), some (.inl v4), some (.inl v5), some (.inr (.inr v6))] [] h = (zck h v6 0 (zcr (zx zblk xs 85 0 [some (.inr (.inr v6)), some (.inl v2)] [] h) fun r2 h1 => (zck h1 r2 3 (zci (zx zblk xs 106 0 [some (.inr (.inr r2))] [] h1) fun r4 h3 => (if zw 4 < zw r4 then zx zblk xs 155 91 [] [] h3 else (zck h3 r2 3 (zci (zx zblk xs 116 0 [some (.inr (.inr r2)), some (.inl v3)] [] h3) fun r6 h5 => (if zw r6 ≠ 0 then zx zblk xs 155 95 [some (.inr (.inr (some p))), none, some (.inl v2), some (.inl v3), some (.inl v4), some (.inl v5), some (.inr (.inr v6)), some (.inr (.inr r2))] [] h5 else zx zblk xs 155 91 [] [] h5)))))))) := (zx_unfold zblk xs 155 65 _ rfl _ _ _).trans rfl
theorem e_X_right_91 (xs : List Int)  (h : zH) : zx zblk xs 155 91 [] [] h = some (some (.inr (.inl (-103))), h) := (zx_unfold zblk xs 155 91 _ rfl _ _ _).trans rfl
theorem e_X_right_95 (xs : List Int) (p : Nat) (v2 : Int) (v3 : Int) (v4 : Int) (v5 : Int) (v6 : Option Nat) (v7 : Option Nat) (h : zH) : zx zblk xs 155 95 [some (.inr (.inr (some p))), none, some (.inl v2), some (.inl v3), some (.inl v4), some (.inl v5), some (.inr (.inr v6)), some (.inr (.inr v7))] [] h = (zck h (some p) 6 (zcl (zx zblk xs 192 0 [some (.inr (.inr (some p))), some (.inr (.inr v6)), some (.inl v2), some (.inl v3), some (.inl v4)] [] h) fun r2 h1 => (zck h1 v7 3 (zci (zx zblk xs 106 0 [some (.inr (.inr v7))] [] h1) fun r4 h3 => (zcl (zx zblk xs 196 0 [some (.inr (.inl (zw (10 * (v3 - 1))))), none, some (.inl r4)] [] h3) fun r6 h5 => (zcl (zx zblk xs 197 0 [some (.inr (.inl r2)), none, some (.inr (.inl r6)), none, some (.inl v5)] [] h5) fun r8 h7 => some (some (.inr (.inl r8)), h7))))))) := (zx_unfold zblk xs 155 95 _ rfl _ _ _).trans rfl
/-- MindReaders.note(I)I -/
noncomputable abbrev r_X_note (xs : List Int) (p : Nat) (v1 : Int) (h : zH) : Option zR := zx zblk xs 156 0 [some (.inr (.inr (some p))), some (.inl v1)] [] h
theorem e_X_note_0 (xs : List Int) (p : Nat) (v1 : Int) (h : zH) : zx zblk xs 156 0 [some (.inr (.inr (some p))), some (.inl v1)] [] h = (zck h (some p) 6 (zci (zx zblk xs 181 0 [some (.inr (.inr (some p))), some (.inl v1)] [] h) fun r2 h1 => (if zw r2 ≠ 0 then zx zblk xs 156 11 [some (.inr (.inr (some p))), some (.inl v1)] [] h1 else some (some (.inl (-101)), h1)))) := (zx_unfold zblk xs 156 0 _ rfl _ _ _).trans rfl
theorem e_X_note_11 (xs : List Int) (p : Nat) (v1 : Int) (h : zH) : zx zblk xs 156 11 [some (.inr (.inr (some p))), some (.inl v1)] [] h = (zck h (some p) 6 (zci (zx zblk xs 177 0 [some (.inr (.inr (some p)))] [] h) fun r2 h1 => (if zw r2 = 0 then zx zblk xs 156 30 [] [] h1 else (zgr h1 (some p) 6 9 fun f3 => (zck h1 f3 3 (zci (zx zblk xs 106 0 [some (.inr (.inr f3))] [] h1) fun r5 h4 => (if zw r5 ≤ zw 8 then zx zblk xs 156 33 [some (.inr (.inr (some p))), some (.inl v1)] [] h4 else zx zblk xs 156 30 [] [] h4))))))) := (zx_unfold zblk xs 156 11 _ rfl _ _ _).trans rfl
theorem e_X_note_30 (xs : List Int)  (h : zH) : zx zblk xs 156 30 [] [] h = some (some (.inl (-103)), h) := (zx_unfold zblk xs 156 30 _ rfl _ _ _).trans rfl
theorem e_X_note_33 (xs : List Int) (p : Nat) (v1 : Int) (h : zH) : zx zblk xs 156 33 [some (.inr (.inr (some p))), some (.inl v1)] [] h = (zgr h (some p) 6 5 fun f1 => (zck h f1 1 (zci (zx zblk xs 94 0 [some (.inr (.inr f1))] [] h) fun r3 h2 => (if zw r3 < zw 10 then zx zblk xs 156 48 [some (.inr (.inr (some p))), some (.inl v1)] [] h2 else some (some (.inl (-104)), h2))))) := (zx_unfold zblk xs 156 33 _ rfl _ _ _).trans rfl
theorem e_X_note_48 (xs : List Int) (p : Nat) (v1 : Int) (h : zH) : zx zblk xs 156 48 [some (.inr (.inr (some p))), some (.inl v1)] [] h = (zgr h (some p) 6 5 fun f1 => (zgr h (some p) 6 9 fun f2 => (zck h f1 1 (zcv (zx zblk xs 97 0 [some (.inr (.inr f1)), some (.inl v1), some (.inr (.inr f2))] [] h) fun h3 => (zgr h3 (some p) 6 4 fun f4 => (zck h3 f4 3 (zcv (zx zblk xs 111 0 [some (.inr (.inr f4))] [] h3) fun h5 => (zgr h5 (some p) 6 5 fun f6 => (zck h5 f6 1 (zci (zx zblk xs 94 0 [some (.inr (.inr f6))] [] h5) fun r8 h7 => some (some (.inl r8), h7))))))))))) := (zx_unfold zblk xs 156 48 _ rfl _ _ _).trans rfl
/-- MindReaders.forget()I -/
noncomputable abbrev r_X_forget (xs : List Int) (p : Nat) (h : zH) : Option zR := zx zblk xs 157 0 [some (.inr (.inr (some p)))] [] h
theorem e_X_forget_0 (xs : List Int) (p : Nat) (h : zH) : zx zblk xs 157 0 [some (.inr (.inr (some p)))] [] h = (zgr h (some p) 6 5 fun f1 => (zck h f1 1 (zci (zx zblk xs 94 0 [some (.inr (.inr f1))] [] h) fun r3 h2 => (zgr h2 (some p) 6 5 fun f4 => (zck h2 f4 1 (zcv (zx zblk xs 98 0 [some (.inr (.inr f4))] [] h2) fun h5 => some (some (.inl r3), h5))))))) := (zx_unfold zblk xs 157 0 _ rfl _ _ _).trans rfl
/-- MindReaders.which()I -/
noncomputable abbrev r_X_which (xs : List Int) (p : Nat) (h : zH) : Option zR := zx zblk xs 158 0 [some (.inr (.inr (some p)))] [] h
theorem e_X_which_0 (xs : List Int) (p : Nat) (h : zH) : zx zblk xs 158 0 [some (.inr (.inr (some p)))] [] h = zx zblk xs 158 4 [some (.inr (.inr (some p))), some (.inl 0), some (.inl 0)] [] h := (zx_unfold zblk xs 158 0 _ rfl _ _ _).trans rfl
theorem e_X_which_4 (xs : List Int) (p : Nat) (v1 : Int) (v2 : Int) (h : zH) : zx zblk xs 158 4 [some (.inr (.inr (some p))), some (.inl v1), some (.inl v2)] [] h = (zgi h (some p) 6 3 fun f1 => (if zw f1 ≤ zw v2 then zx zblk xs 158 47 [none, some (.inl v1)] [] h else (zck h (some p) 6 (zcr (zx zblk xs 182 0 [some (.inr (.inr (some p))), some (.inl v2)] [] h) fun r3 h2 => (zif r3 (zx zblk xs 158 41 [some (.inr (.inr (some p))), some (.inl v1), some (.inl v2)] [] h2) ((zck h2 r3 0 (zci (zx zblk xs 83 0 [some (.inr (.inr r3))] [] h2) fun r5 h4 => (zck h4 (some p) 6 (zci (zx zblk xs 190 0 [some (.inr (.inr (some p))), some (.inr (.inr r3)), some (.inl r5), some (.inl 0)] [] h4) fun r7 h6 => (if zw r7 = 0 then zx zblk xs 158 41 [some (.inr (.inr (some p))), some (.inl v1), some (.inl v2)] [] h6 else zx zblk xs 158 41 [some (.inr (.inr (some p))), some (.inl (zor v1 (zshl 1 v2))), some (.inl v2)] [] h6))))))))))) := (zx_unfold zblk xs 158 4 _ rfl _ _ _).trans rfl
theorem e_X_which_41 (xs : List Int) (p : Nat) (v1 : Int) (v2 : Int) (h : zH) : zx zblk xs 158 41 [some (.inr (.inr (some p))), some (.inl v1), some (.inl v2)] [] h = zx zblk xs 158 4 [some (.inr (.inr (some p))), some (.inl v1), some (.inl (v2 + 1))] [] h := (zx_unfold zblk xs 158 41 _ rfl _ _ _).trans rfl
theorem e_X_which_47 (xs : List Int) (v1 : Int) (h : zH) : zx zblk xs 158 47 [none, some (.inl v1)] [] h = some (some (.inl v1), h) := (zx_unfold zblk xs 158 47 _ rfl _ _ _).trans rfl
/-- MindReaders.step(II)I -/
noncomputable abbrev r_X_step (xs : List Int) (p : Nat) (v1 : Int) (v2 : Int) (h : zH) : Option zR := zx zblk xs 159 0 [some (.inr (.inr (some p))), some (.inl v1), some (.inl v2)] [] h
theorem e_X_step_0 (xs : List Int) (p : Nat) (v1 : Int) (v2 : Int) (h : zH) : zx zblk xs 159 0 [some (.inr (.inr (some p))), some (.inl v1), some (.inl v2)] [] h = (zck h (some p) 6 (zcr (zx zblk xs 182 0 [some (.inr (.inr (some p))), some (.inl v1)] [] h) fun r2 h1 => (zif r2 (some (some (.inl (-101)), h1)) (zx zblk xs 159 13 [some (.inr (.inr (some p))), none, some (.inl v2), some (.inr (.inr r2))] [] h1)))) := (zx_unfold zblk xs 159 0 _ rfl _ _ _).trans rfl
theorem e_X_step_13 (xs : List Int) (p : Nat) (v2 : Int) (v3 : Option Nat) (h : zH) : zx zblk xs 159 13 [some (.inr (.inr (some p))), none, some (.inl v2), some (.inr (.inr v3))] [] h = (if zw v2 < 0 then zx zblk xs 159 23 [] [] h else (if zw v2 ≤ zw 99 then zx zblk xs 159 26 [some (.inr (.inr (some p))), none, some (.inl v2), some (.inr (.inr v3))] [] h else zx zblk xs 159 23 [] [] h)) := (zx_unfold zblk xs 159 13 _ rfl _ _ _).trans rfl
theorem e_X_step_23 (xs : List Int)  (h : zH) : zx zblk xs 159 23 [] [] h = some (some (.inl (-102)), h) := (zx_unfold zblk xs 159 23 _ rfl _ _ _).trans rfl
theorem e_X_step_26 (xs : List Int) (p : Nat) (v2 : Int) (v3 : Option Nat) (h : zH) : zx zblk xs 159 26 [some (.inr (.inr (some p))), none, some (.inl v2), some (.inr (.inr v3))] [] h = (zck h (some p) 6 (zci (zx zblk xs 183 0 [some (.inr (.inr (some p))), some (.inr (.inr v3))] [] h) fun r2 h1 => (if zw r2 ≠ 0 then zx zblk xs 159 41 [some (.inr (.inr (some p))), none, some (.inl v2), some (.inr (.inr v3)), some (.inl r2)] [] h1 else some (some (.inl (-103)), h1)))) := (zx_unfold zblk xs 159 26 _ rfl _ _ _).trans rfl
theorem e_X_step_41 (xs : List Int) (p : Nat) (v2 : Int) (v3 : Option Nat) (v4 : Int) (h : zH) : zx zblk xs 159 41 [some (.inr (.inr (some p))), none, some (.inl v2), some (.inr (.inr v3)), some (.inl v4)] [] h = zx zblk xs 159 44 [some (.inr (.inr (some p))), none, some (.inl v2), some (.inr (.inr v3)), some (.inl v4), some (.inl 0)] [] h := (zx_unfold zblk xs 159 41 _ rfl _ _ _).trans rfl
theorem e_X_step_44 (xs : List Int) (p : Nat) (v2 : Int) (v3 : Option Nat) (v4 : Int) (v5 : Int) (h : zH) : zx zblk xs 159 44 [some (.inr (.inr (some p))), none, some (.inl v2), some (.inr (.inr v3)), some (.inl v4), some (.inl v5)] [] h = (if zw 7 < zw v5 then zx zblk xs 159 74 [] [] h else (zck h (some p) 6 (zci (zx zblk xs 190 0 [some (.inr (.inr (some p))), some (.inr (.inr v3)), some (.inl v4), some (.inl (v5 * v2))] [] h) fun r2 h1 => (if zw r2 = 0 then zx zblk xs 159 68 [some (.inr (.inr (some p))), none, some (.inl v2), some (.inr (.inr v3)), some (.inl v4), some (.inl v5)] [] h1 else some (some (.inl v5), h1))))) := (zx_unfold zblk xs 159 44 _ rfl _ _ _).trans rfl
theorem e_X_step_68 (xs : List Int) (p : Nat) (v2 : Int) (v3 : Option Nat) (v4 : Int) (v5 : Int) (h : zH) : zx zblk xs 159 68 [some (.inr (.inr (some p))), none, some (.inl v2), some (.inr (.inr v3)), some (.inl v4), some (.inl v5)] [] h = zx zblk xs 159 44 [some (.inr (.inr (some p))), none, some (.inl v2), some (.inr (.inr v3)), some (.inl v4), some (.inl (v5 + 1))] [] h := (zx_unfold zblk xs 159 68 _ rfl _ _ _).trans rfl
theorem e_X_step_74 (xs : List Int)  (h : zH) : zx zblk xs 159 74 [] [] h = some (some (.inl (-1)), h) := (zx_unfold zblk xs 159 74 _ rfl _ _ _).trans rfl
/-- MindReaders.seen(II)J -/
noncomputable abbrev r_X_seen (xs : List Int) (p : Nat) (v1 : Int) (v2 : Int) (h : zH) : Option zR := zx zblk xs 160 0 [some (.inr (.inr (some p))), some (.inl v1), some (.inl v2)] [] h
theorem e_X_seen_0 (xs : List Int) (p : Nat) (v1 : Int) (v2 : Int) (h : zH) : zx zblk xs 160 0 [some (.inr (.inr (some p))), some (.inl v1), some (.inl v2)] [] h = (if zw v1 < zw 1 then zx zblk xs 160 18 [] [] h else (if zw 6 < zw v1 then zx zblk xs 160 18 [] [] h else (zci (zx zblk xs 180 0 [some (.inl v2)] [] h) fun r2 h1 => (if zw r2 ≠ 0 then zx zblk xs 160 22 [some (.inr (.inr (some p))), some (.inl v1), some (.inl v2)] [] h1 else zx zblk xs 160 18 [] [] h1)))) := (zx_unfold zblk xs 160 0 _ rfl _ _ _).trans rfl
theorem e_X_seen_18 (xs : List Int)  (h : zH) : zx zblk xs 160 18 [] [] h = some (some (.inr (.inl (-102))), h) := (zx_unfold zblk xs 160 18 _ rfl _ _ _).trans rfl
theorem e_X_seen_22 (xs : List Int) (p : Nat) (v1 : Int) (v2 : Int) (h : zH) : zx zblk xs 160 22 [some (.inr (.inr (some p))), some (.inl v1), some (.inl v2)] [] h = (zgr h (some p) 6 1 fun f1 => (zck h f1 3 (zci (zx zblk xs 106 0 [some (.inr (.inr f1))] [] h) fun r3 h2 => (if zw r3 ≠ 0 then zx zblk xs 160 36 [some (.inr (.inr (some p))), some (.inl v1), some (.inl v2)] [] h2 else some (some (.inr (.inl (-103))), h2))))) := (zx_unfold zblk xs 160 22 _ rfl _ _ _).trans rfl
theorem e_X_seen_36 (xs : List Int) (p : Nat) (v1 : Int) (v2 : Int) (h : zH) : zx zblk xs 160 36 [some (.inr (.inr (some p))), some (.inl v1), some (.inl v2)] [] h = (zck h (some p) 6 (zcl (zx zblk xs 194 0 [some (.inr (.inr (some p))), some (.inl v1)] [] h) fun r2 h1 => (zgr h1 (some p) 6 1 fun f3 => (zgr h1 (some p) 6 1 fun f4 => (zck h1 f4 3 (zci (zx zblk xs 106 0 [some (.inr (.inr f4))] [] h1) fun r6 h5 => (zck h5 f3 3 (zci (zx zblk xs 117 0 [some (.inr (.inr f3)), some (.inl r6)] [] h5) fun r8 h7 => (zcl (zx zblk xs 196 0 [some (.inr (.inl (zw r8))), none, some (.inl v1)] [] h7) fun r10 h9 => (zcl (zx zblk xs 197 0 [some (.inr (.inl r2)), none, some (.inr (.inl r10)), none, some (.inl v2)] [] h9) fun r12 h11 => some (some (.inr (.inl r12)), h11))))))))))) := (zx_unfold zblk xs 160 36 _ rfl _ _ _).trans rfl
/-- MindReaders.change(II)I -/
noncomputable abbrev r_X_change (xs : List Int) (p : Nat) (v1 : Int) (v2 : Int) (h : zH) : Option zR := zx zblk xs 161 0 [some (.inr (.inr (some p))), some (.inl v1), some (.inl v2)] [] h
theorem e_X_change_0 (xs : List Int) (p : Nat) (v1 : Int) (v2 : Int) (h : zH) : zx zblk xs 161 0 [some (.inr (.inr (some p))), some (.inl v1), some (.inl v2)] [] h = (zck h (some p) 6 (zcr (zx zblk xs 182 0 [some (.inr (.inr (some p))), some (.inl v1)] [] h) fun r2 h1 => (zck h1 (some p) 6 (zcr (zx zblk xs 182 0 [some (.inr (.inr (some p))), some (.inl v2)] [] h1) fun r4 h3 => (zif r2 (zx zblk xs 161 22 [] [] h3) ((zif r4 (zx zblk xs 161 22 [] [] h3) (zx zblk xs 161 25 [some (.inr (.inr (some p))), none, none, some (.inr (.inr r2)), some (.inr (.inr r4))] [] h3)))))))) := (zx_unfold zblk xs 161 0 _ rfl _ _ _).trans rfl
theorem e_X_change_22 (xs : List Int)  (h : zH) : zx zblk xs 161 22 [] [] h = some (some (.inl (-101)), h) := (zx_unfold zblk xs 161 22 _ rfl _ _ _).trans rfl
theorem e_X_change_25 (xs : List Int) (p : Nat) (v3 : Option Nat) (v4 : Option Nat) (h : zH) : zx zblk xs 161 25 [some (.inr (.inr (some p))), none, none, some (.inr (.inr v3)), some (.inr (.inr v4))] [] h = (zck h (some p) 6 (zci (zx zblk xs 189 0 [some (.inr (.inr (some p))), some (.inr (.inr v3)), some (.inr (.inr v4))] [] h) fun r2 h1 => some (some (.inl r2), h1))) := (zx_unfold zblk xs 161 25 _ rfl _ _ _).trans rfl
/-- MindReaders.cheapest(I)I -/
noncomputable abbrev r_X_cheapest (xs : List Int) (p : Nat) (v1 : Int) (h : zH) : Option zR := zx zblk xs 162 0 [some (.inr (.inr (some p))), some (.inl v1)] [] h
theorem e_X_cheapest_0 (xs : List Int) (p : Nat) (v1 : Int) (h : zH) : zx zblk xs 162 0 [some (.inr (.inr (some p))), some (.inl v1)] [] h = (zck h (some p) 6 (zcr (zx zblk xs 182 0 [some (.inr (.inr (some p))), some (.inl v1)] [] h) fun r2 h1 => (zif r2 (some (some (.inl (-101)), h1)) (zx zblk xs 162 13 [some (.inr (.inr (some p))), some (.inl v1), some (.inr (.inr r2))] [] h1)))) := (zx_unfold zblk xs 162 0 _ rfl _ _ _).trans rfl
theorem e_X_cheapest_13 (xs : List Int) (p : Nat) (v1 : Int) (v2 : Option Nat) (h : zH) : zx zblk xs 162 13 [some (.inr (.inr (some p))), some (.inl v1), some (.inr (.inr v2))] [] h = zx zblk xs 162 21 [some (.inr (.inr (some p))), some (.inl v1), some (.inr (.inr v2)), some (.inl (-1)), some (.inl 0), some (.inl 0)] [] h := (zx_unfold zblk xs 162 13 _ rfl _ _ _).trans rfl
theorem e_X_cheapest_21 (xs : List Int) (p : Nat) (v1 : Int) (v2 : Option Nat) (v3 : Int) (v4 : Int) (v5 : Int) (h : zH) : zx zblk xs 162 21 [some (.inr (.inr (some p))), some (.inl v1), some (.inr (.inr v2)), some (.inl v3), some (.inl v4), some (.inl v5)] [] h = (zgi h (some p) 6 3 fun f1 => (if zw f1 ≤ zw v5 then zx zblk xs 162 86 [none, none, none, some (.inl v3)] [] h else (zck h (some p) 6 (zcr (zx zblk xs 182 0 [some (.inr (.inr (some p))), some (.inl v5)] [] h) fun r3 h2 => (zif r3 (zx zblk xs 162 80 [some (.inr (.inr (some p))), some (.inl v1), some (.inr (.inr v2)), some (.inl v3), some (.inl v4), some (.inl v5)] [] h2) ((if zw v5 ≠ zw v1 then zx zblk xs 162 52 [some (.inr (.inr (some p))), some (.inl v1), some (.inr (.inr v2)), some (.inl v3), some (.inl v4), some (.inl v5), some (.inr (.inr r3))] [] h2 else zx zblk xs 162 80 [some (.inr (.inr (some p))), some (.inl v1), some (.inr (.inr v2)), some (.inl v3), some (.inl v4), some (.inl v5)] [] h2))))))) := (zx_unfold zblk xs 162 21 _ rfl _ _ _).trans rfl
theorem e_X_cheapest_52 (xs : List Int) (p : Nat) (v1 : Int) (v2 : Option Nat) (v3 : Int) (v4 : Int) (v5 : Int) (v6 : Option Nat) (h : zH) : zx zblk xs 162 52 [some (.inr (.inr (some p))), some (.inl v1), some (.inr (.inr v2)), some (.inl v3), some (.inl v4), some (.inl v5), some (.inr (.inr v6))] [] h = (zck h (some p) 6 (zci (zx zblk xs 189 0 [some (.inr (.inr (some p))), some (.inr (.inr v2)), some (.inr (.inr v6))] [] h) fun r2 h1 => (if zw v3 = zw (-1) then zx zblk xs 162 73 [some (.inr (.inr (some p))), some (.inl v1), some (.inr (.inr v2)), none, none, some (.inl v5), none, some (.inl r2)] [] h1 else (if zw v4 ≤ zw r2 then zx zblk xs 162 80 [some (.inr (.inr (some p))), some (.inl v1), some (.inr (.inr v2)), some (.inl v3), some (.inl v4), some (.inl v5)] [] h1 else zx zblk xs 162 73 [some (.inr (.inr (some p))), some (.inl v1), some (.inr (.inr v2)), none, none, some (.inl v5), none, some (.inl r2)] [] h1)))) := (zx_unfold zblk xs 162 52 _ rfl _ _ _).trans rfl
theorem e_X_cheapest_73 (xs : List Int) (p : Nat) (v1 : Int) (v2 : Option Nat) (v5 : Int) (v7 : Int) (h : zH) : zx zblk xs 162 73 [some (.inr (.inr (some p))), some (.inl v1), some (.inr (.inr v2)), none, none, some (.inl v5), none, some (.inl v7)] [] h = zx zblk xs 162 80 [some (.inr (.inr (some p))), some (.inl v1), some (.inr (.inr v2)), some (.inl v5), some (.inl v7), some (.inl v5)] [] h := (zx_unfold zblk xs 162 73 _ rfl _ _ _).trans rfl
theorem e_X_cheapest_80 (xs : List Int) (p : Nat) (v1 : Int) (v2 : Option Nat) (v3 : Int) (v4 : Int) (v5 : Int) (h : zH) : zx zblk xs 162 80 [some (.inr (.inr (some p))), some (.inl v1), some (.inr (.inr v2)), some (.inl v3), some (.inl v4), some (.inl v5)] [] h = zx zblk xs 162 21 [some (.inr (.inr (some p))), some (.inl v1), some (.inr (.inr v2)), some (.inl v3), some (.inl v4), some (.inl (v5 + 1))] [] h := (zx_unfold zblk xs 162 80 _ rfl _ _ _).trans rfl
theorem e_X_cheapest_86 (xs : List Int) (v3 : Int) (h : zH) : zx zblk xs 162 86 [none, none, none, some (.inl v3)] [] h = some (some (.inl v3), h) := (zx_unfold zblk xs 162 86 _ rfl _ _ _).trans rfl
/-- MindReaders.luck(IIII)J -/
noncomputable abbrev r_X_luck (xs : List Int) (p : Nat) (v1 : Int) (v2 : Int) (v3 : Int) (v4 : Int) (h : zH) : Option zR := zx zblk xs 163 0 [some (.inr (.inr (some p))), some (.inl v1), some (.inl v2), some (.inl v3), some (.inl v4)] [] h
theorem e_X_luck_0 (xs : List Int) (p : Nat) (v1 : Int) (v2 : Int) (v3 : Int) (v4 : Int) (h : zH) : zx zblk xs 163 0 [some (.inr (.inr (some p))), some (.inl v1), some (.inl v2), some (.inl v3), some (.inl v4)] [] h = (if zw v1 < zw 1 then zx zblk xs 163 39 [] [] h else (if zw 12 < zw v1 then zx zblk xs 163 39 [] [] h else (if zw v2 < zw 2 then zx zblk xs 163 39 [] [] h else (if zw 9 < zw v2 then zx zblk xs 163 39 [] [] h else (if zw v3 < 0 then zx zblk xs 163 39 [] [] h else (if zw v1 < zw v3 then zx zblk xs 163 39 [] [] h else (zci (zx zblk xs 180 0 [some (.inl v4)] [] h) fun r2 h1 => (if zw r2 ≠ 0 then zx zblk xs 163 43 [none, some (.inl v1), some (.inl v2), some (.inl v3), some (.inl v4)] [] h1 else zx zblk xs 163 39 [] [] h1)))))))) := (zx_unfold zblk xs 163 0 _ rfl _ _ _).trans rfl
theorem e_X_luck_39 (xs : List Int)  (h : zH) : zx zblk xs 163 39 [] [] h = some (some (.inr (.inl (-102))), h) := (zx_unfold zblk xs 163 39 _ rfl _ _ _).trans rfl
theorem e_X_luck_43 (xs : List Int) (v1 : Int) (v2 : Int) (v3 : Int) (v4 : Int) (h : zH) : zx zblk xs 163 43 [none, some (.inl v1), some (.inl v2), some (.inl v3), some (.inl v4)] [] h = zx zblk xs 163 49 [none, some (.inl v1), some (.inl v2), none, some (.inl v4), some (.inr (.inl 0)), none, some (.inl v3)] [] h := (zx_unfold zblk xs 163 43 _ rfl _ _ _).trans rfl
theorem e_X_luck_49 (xs : List Int) (v1 : Int) (v2 : Int) (v4 : Int) (v5 : Int) (v7 : Int) (h : zH) : zx zblk xs 163 49 [none, some (.inl v1), some (.inl v2), none, some (.inl v4), some (.inr (.inl v5)), none, some (.inl v7)] [] h = (if zw v1 < zw v7 then zx zblk xs 163 84 [none, some (.inl v1), some (.inl v2), none, some (.inl v4), some (.inr (.inl v5))] [] h else (zcl (zx zblk xs 195 0 [some (.inl v1), some (.inl v7)] [] h) fun r2 h1 => (zcl (zx zblk xs 196 0 [some (.inr (.inl (zw (v2 - 1)))), none, some (.inl (v1 - v7))] [] h1) fun r4 h3 => zx zblk xs 163 49 [none, some (.inl v1), some (.inl v2), none, some (.inl v4), some (.inr (.inl (v5 + (r2 * r4)))), none, some (.inl (v7 + 1))] [] h3))) := (zx_unfold zblk xs 163 49 _ rfl _ _ _).trans rfl
theorem e_X_luck_84 (xs : List Int) (v1 : Int) (v2 : Int) (v4 : Int) (v5 : Int) (h : zH) : zx zblk xs 163 84 [none, some (.inl v1), some (.inl v2), none, some (.inl v4), some (.inr (.inl v5))] [] h = (zcl (zx zblk xs 196 0 [some (.inr (.inl (zw v2))), none, some (.inl v1)] [] h) fun r2 h1 => (zcl (zx zblk xs 197 0 [some (.inr (.inl v5)), none, some (.inr (.inl r2)), none, some (.inl v4)] [] h1) fun r4 h3 => some (some (.inr (.inl r4)), h3))) := (zx_unfold zblk xs 163 84 _ rfl _ _ _).trans rfl
/-- MindReaders.left(II)I -/
noncomputable abbrev r_X_left (xs : List Int) (p : Nat) (v1 : Int) (v2 : Int) (h : zH) : Option zR := zx zblk xs 164 0 [some (.inr (.inr (some p))), some (.inl v1), some (.inl v2)] [] h
theorem e_X_left_0 (xs : List Int) (p : Nat) (v1 : Int) (v2 : Int) (h : zH) : zx zblk xs 164 0 [some (.inr (.inr (some p))), some (.inl v1), some (.inl v2)] [] h = (zck h (some p) 6 (zcr (zx zblk xs 182 0 [some (.inr (.inr (some p))), some (.inl v1)] [] h) fun r2 h1 => (zif r2 (some (some (.inl (-101)), h1)) (zx zblk xs 164 13 [some (.inr (.inr (some p))), none, some (.inl v2), some (.inr (.inr r2))] [] h1)))) := (zx_unfold zblk xs 164 0 _ rfl _ _ _).trans rfl
theorem e_X_left_13 (xs : List Int) (p : Nat) (v2 : Int) (v3 : Option Nat) (h : zH) : zx zblk xs 164 13 [some (.inr (.inr (some p))), none, some (.inl v2), some (.inr (.inr v3))] [] h = (if zw v2 < 0 then zx zblk xs 164 24 [] [] h else (if zw v2 ≤ zw 255 then zx zblk xs 164 27 [some (.inr (.inr (some p))), none, some (.inl v2), some (.inr (.inr v3))] [] h else zx zblk xs 164 24 [] [] h)) := (zx_unfold zblk xs 164 13 _ rfl _ _ _).trans rfl
theorem e_X_left_24 (xs : List Int)  (h : zH) : zx zblk xs 164 24 [] [] h = some (some (.inl (-102)), h) := (zx_unfold zblk xs 164 24 _ rfl _ _ _).trans rfl
theorem e_X_left_27 (xs : List Int) (p : Nat) (v2 : Int) (v3 : Option Nat) (h : zH) : zx zblk xs 164 27 [some (.inr (.inr (some p))), none, some (.inl v2), some (.inr (.inr v3))] [] h = (zck h (some p) 6 (zci (zx zblk xs 198 0 [some (.inr (.inr (some p))), some (.inr (.inr v3)), some (.inl v2), some (.inl 8)] [] h) fun r2 h1 => some (some (.inl r2), h1))) := (zx_unfold zblk xs 164 27 _ rfl _ _ _).trans rfl
/-- MindReaders.stop(I)I -/
noncomputable abbrev r_X_stop (xs : List Int) (p : Nat) (v1 : Int) (h : zH) : Option zR := zx zblk xs 165 0 [some (.inr (.inr (some p))), some (.inl v1)] [] h
theorem e_X_stop_0 (xs : List Int) (p : Nat) (v1 : Int) (h : zH) : zx zblk xs 165 0 [some (.inr (.inr (some p))), some (.inl v1)] [] h = (zck h (some p) 6 (zcr (zx zblk xs 182 0 [some (.inr (.inr (some p))), some (.inl v1)] [] h) fun r2 h1 => (zif r2 (some (some (.inl (-101)), h1)) (zx zblk xs 165 13 [some (.inr (.inr (some p))), none, some (.inr (.inr r2))] [] h1)))) := (zx_unfold zblk xs 165 0 _ rfl _ _ _).trans rfl
theorem e_X_stop_13 (xs : List Int) (p : Nat) (v2 : Option Nat) (h : zH) : zx zblk xs 165 13 [some (.inr (.inr (some p))), none, some (.inr (.inr v2))] [] h = zx zblk xs 165 15 [some (.inr (.inr (some p))), none, some (.inr (.inr v2)), some (.inl 0)] [] h := (zx_unfold zblk xs 165 13 _ rfl _ _ _).trans rfl
theorem e_X_stop_15 (xs : List Int) (p : Nat) (v2 : Option Nat) (v3 : Int) (h : zH) : zx zblk xs 165 15 [some (.inr (.inr (some p))), none, some (.inr (.inr v2)), some (.inl v3)] [] h = (if zw 8 ≤ zw v3 then zx zblk xs 165 68 [] [] h else zx zblk xs 165 24 [some (.inr (.inr (some p))), none, some (.inr (.inr v2)), some (.inl v3), some (.inl 0)] [] h) := (zx_unfold zblk xs 165 15 _ rfl _ _ _).trans rfl
theorem e_X_stop_24 (xs : List Int) (p : Nat) (v2 : Option Nat) (v3 : Int) (v4 : Int) (h : zH) : zx zblk xs 165 24 [some (.inr (.inr (some p))), none, some (.inr (.inr v2)), some (.inl v3), some (.inl v4)] [] h = (if zw 255 < zw v4 then zx zblk xs 165 62 [some (.inr (.inr (some p))), none, some (.inr (.inr v2)), some (.inl v3)] [] h else (zci (zx zblk xs 199 0 [some (.inl v4)] [] h) fun r2 h1 => (if zw r2 ≠ zw v3 then zx zblk xs 165 56 [some (.inr (.inr (some p))), none, some (.inr (.inr v2)), some (.inl v3), some (.inl v4)] [] h1 else (zck h1 (some p) 6 (zci (zx zblk xs 198 0 [some (.inr (.inr (some p))), some (.inr (.inr v2)), some (.inl v4), some (.inl 2)] [] h1) fun r4 h3 => (if zw 1 < zw r4 then zx zblk xs 165 56 [some (.inr (.inr (some p))), none, some (.inr (.inr v2)), some (.inl v3), some (.inl v4)] [] h3 else some (some (.inl v4), h3))))))) := (zx_unfold zblk xs 165 24 _ rfl _ _ _).trans rfl
theorem e_X_stop_56 (xs : List Int) (p : Nat) (v2 : Option Nat) (v3 : Int) (v4 : Int) (h : zH) : zx zblk xs 165 56 [some (.inr (.inr (some p))), none, some (.inr (.inr v2)), some (.inl v3), some (.inl v4)] [] h = zx zblk xs 165 24 [some (.inr (.inr (some p))), none, some (.inr (.inr v2)), some (.inl v3), some (.inl (v4 + 1))] [] h := (zx_unfold zblk xs 165 56 _ rfl _ _ _).trans rfl
theorem e_X_stop_62 (xs : List Int) (p : Nat) (v2 : Option Nat) (v3 : Int) (h : zH) : zx zblk xs 165 62 [some (.inr (.inr (some p))), none, some (.inr (.inr v2)), some (.inl v3)] [] h = zx zblk xs 165 15 [some (.inr (.inr (some p))), none, some (.inr (.inr v2)), some (.inl (v3 + 1))] [] h := (zx_unfold zblk xs 165 62 _ rfl _ _ _).trans rfl
theorem e_X_stop_68 (xs : List Int)  (h : zH) : zx zblk xs 165 68 [] [] h = some (some (.inl 255), h) := (zx_unfold zblk xs 165 68 _ rfl _ _ _).trans rfl
/-- MindReaders.image()I -/
noncomputable abbrev r_X_image (xs : List Int) (p : Nat) (h : zH) : Option zR := zx zblk xs 166 0 [some (.inr (.inr (some p)))] [] h
theorem e_X_image_0 (xs : List Int) (p : Nat) (h : zH) : zx zblk xs 166 0 [some (.inr (.inr (some p)))] [] h = (zgr h (some p) 6 6 fun f1 => (zgr h (some p) 6 1 fun f2 => (zck h f1 3 (zcv (zx zblk xs 112 0 [some (.inr (.inr f1)), some (.inr (.inr f2))] [] h) fun h3 => (zgr h3 (some p) 6 7 fun f4 => (zgr h3 (some p) 6 5 fun f5 => (zck h3 f4 1 (zcv (zx zblk xs 99 0 [some (.inr (.inr f4)), some (.inr (.inr f5))] [] h3) fun h6 => (if 1 = 0 ∨ 1 = 1 then (zpf h6 (some p) 6 8 (.inl 1) fun h7 => (zgr h7 (some p) 6 1 fun f8 => (zck h7 f8 3 (zci (zx zblk xs 106 0 [some (.inr (.inr f8))] [] h7) fun r10 h9 => some (some (.inl r10), h9))))) else none))))))))) := (zx_unfold zblk xs 166 0 _ rfl _ _ _).trans rfl
/-- MindReaders.restore()I -/
noncomputable abbrev r_X_restore (xs : List Int) (p : Nat) (h : zH) : Option zR := zx zblk xs 167 0 [some (.inr (.inr (some p)))] [] h
theorem e_X_restore_0 (xs : List Int) (p : Nat) (h : zH) : zx zblk xs 167 0 [some (.inr (.inr (some p)))] [] h = (zgi h (some p) 6 8 fun f1 => (if zw f1 ≠ 0 then zx zblk xs 167 10 [some (.inr (.inr (some p)))] [] h else some (some (.inl (-103)), h))) := (zx_unfold zblk xs 167 0 _ rfl _ _ _).trans rfl
theorem e_X_restore_10 (xs : List Int) (p : Nat) (h : zH) : zx zblk xs 167 10 [some (.inr (.inr (some p)))] [] h = zx zblk xs 167 12 [some (.inr (.inr (some p))), some (.inl 0)] [] h := (zx_unfold zblk xs 167 10 _ rfl _ _ _).trans rfl
theorem e_X_restore_12 (xs : List Int) (p : Nat) (v1 : Int) (h : zH) : zx zblk xs 167 12 [some (.inr (.inr (some p))), some (.inl v1)] [] h = (zgr h (some p) 6 6 fun f1 => (zck h f1 3 (zci (zx zblk xs 106 0 [some (.inr (.inr f1))] [] h) fun r3 h2 => (if zw r3 ≤ zw v1 then zx zblk xs 167 45 [some (.inr (.inr (some p)))] [] h2 else (zgr h2 (some p) 6 1 fun f4 => (zgr h2 (some p) 6 6 fun f5 => (zck h2 f5 3 (zci (zx zblk xs 107 0 [some (.inr (.inr f5)), some (.inl v1)] [] h2) fun r7 h6 => (zck h6 f4 3 (zcv (zx zblk xs 108 0 [some (.inr (.inr f4)), some (.inl v1), some (.inl r7)] [] h6) fun h8 => zx zblk xs 167 12 [some (.inr (.inr (some p))), some (.inl (v1 + 1))] [] h8)))))))))) := (zx_unfold zblk xs 167 12 _ rfl _ _ _).trans rfl
theorem e_X_restore_45 (xs : List Int) (p : Nat) (h : zH) : zx zblk xs 167 45 [some (.inr (.inr (some p)))] [] h = (zgr h (some p) 6 5 fun f1 => (zgr h (some p) 6 7 fun f2 => (zck h f1 1 (zcv (zx zblk xs 99 0 [some (.inr (.inr f1)), some (.inr (.inr f2))] [] h) fun h3 => (zgr h3 (some p) 6 1 fun f4 => (zck h3 f4 3 (zci (zx zblk xs 106 0 [some (.inr (.inr f4))] [] h3) fun r6 h5 => some (some (.inl r6), h5)))))))) := (zx_unfold zblk xs 167 45 _ rfl _ _ _).trans rfl
/-- MindReaders.count(I)I -/
noncomputable abbrev r_X_count (xs : List Int) (p : Nat) (v1 : Int) (h : zH) : Option zR := zx zblk xs 168 0 [some (.inr (.inr (some p))), some (.inl v1)] [] h
theorem e_X_count_0 (xs : List Int) (p : Nat) (v1 : Int) (h : zH) : zx zblk xs 168 0 [some (.inr (.inr (some p))), some (.inl v1)] [] h = (if zw v1 < 0 ∨ 5 < zw v1 then zx zblk xs 168 92 [some (.inr (.inr (some p)))] [] h else zsel ([40, 48, 56, 61, 69, 77][(zw v1 - 0).toNat]?) fun t => zx zblk xs 168 t [some (.inr (.inr (some p)))] [] h) := (zx_unfold zblk xs 168 0 _ rfl _ _ _).trans rfl
theorem e_X_count_40 (xs : List Int) (p : Nat) (h : zH) : zx zblk xs 168 40 [some (.inr (.inr (some p)))] [] h = (zgr h (some p) 6 0 fun f1 => (zck h f1 5 (zci (zx zblk xs 123 0 [some (.inr (.inr f1))] [] h) fun r3 h2 => some (some (.inl r3), h2)))) := (zx_unfold zblk xs 168 40 _ rfl _ _ _).trans rfl
theorem e_X_count_48 (xs : List Int) (p : Nat) (h : zH) : zx zblk xs 168 48 [some (.inr (.inr (some p)))] [] h = (zgr h (some p) 6 1 fun f1 => (zck h f1 3 (zci (zx zblk xs 106 0 [some (.inr (.inr f1))] [] h) fun r3 h2 => some (some (.inl r3), h2)))) := (zx_unfold zblk xs 168 48 _ rfl _ _ _).trans rfl
theorem e_X_count_56 (xs : List Int) (p : Nat) (h : zH) : zx zblk xs 168 56 [some (.inr (.inr (some p)))] [] h = (zgi h (some p) 6 3 fun f1 => some (some (.inl f1), h)) := (zx_unfold zblk xs 168 56 _ rfl _ _ _).trans rfl
theorem e_X_count_61 (xs : List Int) (p : Nat) (h : zH) : zx zblk xs 168 61 [some (.inr (.inr (some p)))] [] h = (zgr h (some p) 6 5 fun f1 => (zck h f1 1 (zci (zx zblk xs 94 0 [some (.inr (.inr f1))] [] h) fun r3 h2 => some (some (.inl r3), h2)))) := (zx_unfold zblk xs 168 61 _ rfl _ _ _).trans rfl
theorem e_X_count_69 (xs : List Int) (p : Nat) (h : zH) : zx zblk xs 168 69 [some (.inr (.inr (some p)))] [] h = (zgr h (some p) 6 4 fun f1 => (zck h f1 3 (zci (zx zblk xs 106 0 [some (.inr (.inr f1))] [] h) fun r3 h2 => some (some (.inl r3), h2)))) := (zx_unfold zblk xs 168 69 _ rfl _ _ _).trans rfl
theorem e_X_count_77 (xs : List Int) (p : Nat) (h : zH) : zx zblk xs 168 77 [some (.inr (.inr (some p)))] [] h = (zgr h (some p) 6 1 fun f1 => (zgr h (some p) 6 1 fun f2 => (zck h f2 3 (zci (zx zblk xs 106 0 [some (.inr (.inr f2))] [] h) fun r4 h3 => (zck h3 f1 3 (zci (zx zblk xs 117 0 [some (.inr (.inr f1)), some (.inl r4)] [] h3) fun r6 h5 => some (some (.inl r6), h5))))))) := (zx_unfold zblk xs 168 77 _ rfl _ _ _).trans rfl
theorem e_X_count_92 (xs : List Int) (p : Nat) (h : zH) : zx zblk xs 168 92 [some (.inr (.inr (some p)))] [] h = some (some (.inl (-102)), h) := (zx_unfold zblk xs 168 92 _ rfl _ _ _).trans rfl
/-- MindReaders.digest()J -/
noncomputable abbrev r_X_digest (xs : List Int) (p : Nat) (h : zH) : Option zR := zx zblk xs 169 0 [some (.inr (.inr (some p)))] [] h
theorem e_X_digest_0 (xs : List Int) (p : Nat) (h : zH) : zx zblk xs 169 0 [some (.inr (.inr (some p)))] [] h = zx zblk xs 169 6 [some (.inr (.inr (some p))), some (.inr (.inl 479)), none, some (.inl 0)] [] h := (zx_unfold zblk xs 169 0 _ rfl _ _ _).trans rfl
theorem e_X_digest_6 (xs : List Int) (p : Nat) (v1 : Int) (v3 : Int) (h : zH) : zx zblk xs 169 6 [some (.inr (.inr (some p))), some (.inr (.inl v1)), none, some (.inl v3)] [] h = (zgr h (some p) 6 0 fun f1 => (zck h f1 5 (zci (zx zblk xs 123 0 [some (.inr (.inr f1))] [] h) fun r3 h2 => (if zw r3 ≤ zw v3 then zx zblk xs 169 51 [some (.inr (.inr (some p))), some (.inr (.inl v1))] [] h2 else zx zblk xs 169 20 [some (.inr (.inr (some p))), some (.inr (.inl v1)), none, some (.inl v3), some (.inl 0)] [] h2)))) := (zx_unfold zblk xs 169 6 _ rfl _ _ _).trans rfl
theorem e_X_digest_20 (xs : List Int) (p : Nat) (v1 : Int) (v3 : Int) (v4 : Int) (h : zH) : zx zblk xs 169 20 [some (.inr (.inr (some p))), some (.inr (.inl v1)), none, some (.inl v3), some (.inl v4)] [] h = (if zw 3 < zw v4 then zx zblk xs 169 45 [some (.inr (.inr (some p))), some (.inr (.inl v1)), none, some (.inl v3)] [] h else (zck h (some p) 6 (zci (zx zblk xs 141 0 [some (.inr (.inr (some p))), some (.inl v3), some (.inl v4)] [] h) fun r2 h1 => (zcl (zx zblk xs 170 0 [some (.inr (.inl v1)), none, some (.inr (.inl (zw r2))), none] [] h1) fun r4 h3 => zx zblk xs 169 20 [some (.inr (.inr (some p))), some (.inr (.inl r4)), none, some (.inl v3), some (.inl (v4 + 1))] [] h3)))) := (zx_unfold zblk xs 169 20 _ rfl _ _ _).trans rfl
theorem e_X_digest_45 (xs : List Int) (p : Nat) (v1 : Int) (v3 : Int) (h : zH) : zx zblk xs 169 45 [some (.inr (.inr (some p))), some (.inr (.inl v1)), none, some (.inl v3)] [] h = zx zblk xs 169 6 [some (.inr (.inr (some p))), some (.inr (.inl v1)), none, some (.inl (v3 + 1))] [] h := (zx_unfold zblk xs 169 45 _ rfl _ _ _).trans rfl
theorem e_X_digest_51 (xs : List Int) (p : Nat) (v1 : Int) (h : zH) : zx zblk xs 169 51 [some (.inr (.inr (some p))), some (.inr (.inl v1))] [] h = (zgr h (some p) 6 1 fun f1 => (zcl (zx zblk xs 171 0 [some (.inr (.inl v1)), none, some (.inr (.inr f1))] [] h) fun r3 h2 => zx zblk xs 169 62 [some (.inr (.inr (some p))), some (.inr (.inl r3)), none, some (.inl 0)] [] h2)) := (zx_unfold zblk xs 169 51 _ rfl _ _ _).trans rfl
theorem e_X_digest_62 (xs : List Int) (p : Nat) (v1 : Int) (v3 : Int) (h : zH) : zx zblk xs 169 62 [some (.inr (.inr (some p))), some (.inr (.inl v1)), none, some (.inl v3)] [] h = (zgi h (some p) 6 3 fun f1 => (if zw f1 ≤ zw v3 then zx zblk xs 169 97 [some (.inr (.inr (some p))), some (.inr (.inl v1))] [] h else (zck h (some p) 6 (zcr (zx zblk xs 182 0 [some (.inr (.inr (some p))), some (.inl v3)] [] h) fun r3 h2 => (zif r3 (zx zblk xs 169 91 [some (.inr (.inr (some p))), some (.inr (.inl v1)), none, some (.inl v3)] [] h2) ((zck h2 (some p) 6 (zcl (zx zblk xs 172 0 [some (.inr (.inr (some p))), some (.inr (.inl v1)), none, some (.inl v3), some (.inr (.inr r3))] [] h2) fun r5 h4 => zx zblk xs 169 91 [some (.inr (.inr (some p))), some (.inr (.inl r5)), none, some (.inl v3)] [] h4)))))))) := (zx_unfold zblk xs 169 62 _ rfl _ _ _).trans rfl
theorem e_X_digest_91 (xs : List Int) (p : Nat) (v1 : Int) (v3 : Int) (h : zH) : zx zblk xs 169 91 [some (.inr (.inr (some p))), some (.inr (.inl v1)), none, some (.inl v3)] [] h = zx zblk xs 169 62 [some (.inr (.inr (some p))), some (.inr (.inl v1)), none, some (.inl (v3 + 1))] [] h := (zx_unfold zblk xs 169 91 _ rfl _ _ _).trans rfl
theorem e_X_digest_97 (xs : List Int) (p : Nat) (v1 : Int) (h : zH) : zx zblk xs 169 97 [some (.inr (.inr (some p))), some (.inr (.inl v1))] [] h = zx zblk xs 169 99 [some (.inr (.inr (some p))), some (.inr (.inl v1)), none, some (.inl 0)] [] h := (zx_unfold zblk xs 169 97 _ rfl _ _ _).trans rfl
theorem e_X_digest_99 (xs : List Int) (p : Nat) (v1 : Int) (v3 : Int) (h : zH) : zx zblk xs 169 99 [some (.inr (.inr (some p))), some (.inr (.inl v1)), none, some (.inl v3)] [] h = (zgr h (some p) 6 5 fun f1 => (zck h f1 1 (zci (zx zblk xs 94 0 [some (.inr (.inr f1))] [] h) fun r3 h2 => (if zw r3 ≤ zw v3 then zx zblk xs 169 160 [some (.inr (.inr (some p))), some (.inr (.inl v1))] [] h2 else (zgr h2 (some p) 6 5 fun f4 => (zck h2 f4 1 (zci (zx zblk xs 95 0 [some (.inr (.inr f4)), some (.inl v3)] [] h2) fun r6 h5 => (zcl (zx zblk xs 170 0 [some (.inr (.inl v1)), none, some (.inr (.inl (zw r6))), none] [] h5) fun r8 h7 => (zgr h7 (some p) 6 5 fun f9 => (zck h7 f9 1 (zcr (zx zblk xs 96 0 [some (.inr (.inr f9)), some (.inl v3)] [] h7) fun r11 h10 => (zck h10 r11 3 (zci (zx zblk xs 106 0 [some (.inr (.inr r11))] [] h10) fun r13 h12 => (zcl (zx zblk xs 170 0 [some (.inr (.inl r8)), none, some (.inr (.inl (zw r13))), none] [] h12) fun r15 h14 => (zgr h14 (some p) 6 5 fun f16 => (zck h14 f16 1 (zcr (zx zblk xs 96 0 [some (.inr (.inr f16)), some (.inl v3)] [] h14) fun r18 h17 => (zcl (zx zblk xs 171 0 [some (.inr (.inl r15)), none, some (.inr (.inr r18))] [] h17) fun r20 h19 => zx zblk xs 169 99 [some (.inr (.inr (some p))), some (.inr (.inl r20)), none, some (.inl (v3 + 1))] [] h19)))))))))))))))))) := (zx_unfold zblk xs 169 99 _ rfl _ _ _).trans rfl
theorem e_X_digest_160 (xs : List Int) (p : Nat) (v1 : Int) (h : zH) : zx zblk xs 169 160 [some (.inr (.inr (some p))), some (.inr (.inl v1))] [] h = (zck h (some p) 6 (zci (zx zblk xs 158 0 [some (.inr (.inr (some p)))] [] h) fun r2 h1 => (zcl (zx zblk xs 170 0 [some (.inr (.inl v1)), none, some (.inr (.inl (zw r2))), none] [] h1) fun r4 h3 => (zgr h3 (some p) 6 4 fun f5 => (zcl (zx zblk xs 171 0 [some (.inr (.inl r4)), none, some (.inr (.inr f5))] [] h3) fun r7 h6 => zx zblk xs 169 181 [some (.inr (.inr (some p))), some (.inr (.inl r7)), none, some (.inl 0)] [] h6))))) := (zx_unfold zblk xs 169 160 _ rfl _ _ _).trans rfl
theorem e_X_digest_181 (xs : List Int) (p : Nat) (v1 : Int) (v3 : Int) (h : zH) : zx zblk xs 169 181 [some (.inr (.inr (some p))), some (.inr (.inl v1)), none, some (.inl v3)] [] h = (if zw 5 < zw v3 then zx zblk xs 169 203 [none, some (.inr (.inl v1))] [] h else (zck h (some p) 6 (zci (zx zblk xs 168 0 [some (.inr (.inr (some p))), some (.inl v3)] [] h) fun r2 h1 => (zcl (zx zblk xs 170 0 [some (.inr (.inl v1)), none, some (.inr (.inl (zw r2))), none] [] h1) fun r4 h3 => zx zblk xs 169 181 [some (.inr (.inr (some p))), some (.inr (.inl r4)), none, some (.inl (v3 + 1))] [] h3)))) := (zx_unfold zblk xs 169 181 _ rfl _ _ _).trans rfl
theorem e_X_digest_203 (xs : List Int) (v1 : Int) (h : zH) : zx zblk xs 169 203 [none, some (.inr (.inl v1))] [] h = some (some (.inr (.inl v1)), h) := (zx_unfold zblk xs 169 203 _ rfl _ _ _).trans rfl
/-- MindReaders.mix(JJ)J -/
noncomputable abbrev r_X_mix (xs : List Int) (v1 : Int) (v2 : Int) (h : zH) : Option zR := zx zblk xs 170 0 [some (.inr (.inl v1)), none, some (.inr (.inl v2)), none] [] h
theorem e_X_mix_0 (xs : List Int) (v0 : Int) (v2 : Int) (h : zH) : zx zblk xs 170 0 [some (.inr (.inl v0)), none, some (.inr (.inl v2)), none] [] h = some (some (.inr (.inl ((31 * v0) + v2))), h) := (zx_unfold zblk xs 170 0 _ rfl _ _ _).trans rfl
/-- MindReaders.mixRow(JLMindReaders$Row;)J -/
noncomputable abbrev r_X_mixRow (xs : List Int) (v1 : Int) (v2 : Option Nat) (h : zH) : Option zR := zx zblk xs 171 0 [some (.inr (.inl v1)), none, some (.inr (.inr v2))] [] h
theorem e_X_mixRow_0 (xs : List Int) (v0 : Int) (v2 : Option Nat) (h : zH) : zx zblk xs 171 0 [some (.inr (.inl v0)), none, some (.inr (.inr v2))] [] h = zx zblk xs 171 5 [none, none, some (.inr (.inr v2)), some (.inr (.inl v0)), none, some (.inl 0)] [] h := (zx_unfold zblk xs 171 0 _ rfl _ _ _).trans rfl
theorem e_X_mixRow_5 (xs : List Int) (v2 : Option Nat) (v3 : Int) (v5 : Int) (h : zH) : zx zblk xs 171 5 [none, none, some (.inr (.inr v2)), some (.inr (.inl v3)), none, some (.inl v5)] [] h = (zck h v2 3 (zci (zx zblk xs 106 0 [some (.inr (.inr v2))] [] h) fun r2 h1 => (if zw r2 ≤ zw v5 then zx zblk xs 171 32 [none, none, none, some (.inr (.inl v3))] [] h1 else (zck h1 v2 3 (zci (zx zblk xs 107 0 [some (.inr (.inr v2)), some (.inl v5)] [] h1) fun r4 h3 => (zcl (zx zblk xs 170 0 [some (.inr (.inl v3)), none, some (.inr (.inl (zw r4))), none] [] h3) fun r6 h5 => zx zblk xs 171 5 [none, none, some (.inr (.inr v2)), some (.inr (.inl r6)), none, some (.inl (v5 + 1))] [] h5)))))) := (zx_unfold zblk xs 171 5 _ rfl _ _ _).trans rfl
theorem e_X_mixRow_32 (xs : List Int) (v3 : Int) (h : zH) : zx zblk xs 171 32 [none, none, none, some (.inr (.inl v3))] [] h = some (some (.inr (.inl v3)), h) := (zx_unfold zblk xs 171 32 _ rfl _ _ _).trans rfl
/-- MindReaders.mixCode(JILMindReaders$Code;)J -/
noncomputable abbrev r_X_mixCode (xs : List Int) (p : Nat) (v1 : Int) (v2 : Int) (v3 : Option Nat) (h : zH) : Option zR := zx zblk xs 172 0 [some (.inr (.inr (some p))), some (.inr (.inl v1)), none, some (.inl v2), some (.inr (.inr v3))] [] h
theorem e_X_mixCode_0 (xs : List Int) (p : Nat) (v1 : Int) (v3 : Int) (v4 : Option Nat) (h : zH) : zx zblk xs 172 0 [some (.inr (.inr (some p))), some (.inr (.inl v1)), none, some (.inl v3), some (.inr (.inr v4))] [] h = zx zblk xs 172 6 [some (.inr (.inr (some p))), none, none, some (.inl v3), some (.inr (.inr v4)), some (.inr (.inl v1)), none, some (.inl 0)] [] h := (zx_unfold zblk xs 172 0 _ rfl _ _ _).trans rfl
theorem e_X_mixCode_6 (xs : List Int) (p : Nat) (v3 : Int) (v4 : Option Nat) (v5 : Int) (v7 : Int) (h : zH) : zx zblk xs 172 6 [some (.inr (.inr (some p))), none, none, some (.inl v3), some (.inr (.inr v4)), some (.inr (.inl v5)), none, some (.inl v7)] [] h = (zck h v4 0 (zci (zx zblk xs 83 0 [some (.inr (.inr v4))] [] h) fun r2 h1 => (if zw r2 ≤ zw v7 then zx zblk xs 172 88 [some (.inr (.inr (some p))), none, none, some (.inl v3), some (.inr (.inr v4)), some (.inr (.inl v5))] [] h1 else zx zblk xs 172 19 [some (.inr (.inr (some p))), none, none, some (.inl v3), some (.inr (.inr v4)), some (.inr (.inl v5)), none, some (.inl v7), some (.inl 0)] [] h1))) := (zx_unfold zblk xs 172 6 _ rfl _ _ _).trans rfl
theorem e_X_mixCode_19 (xs : List Int) (p : Nat) (v3 : Int) (v4 : Option Nat) (v5 : Int) (v7 : Int) (v8 : Int) (h : zH) : zx zblk xs 172 19 [some (.inr (.inr (some p))), none, none, some (.inl v3), some (.inr (.inr v4)), some (.inr (.inl v5)), none, some (.inl v7), some (.inl v8)] [] h = (if zw 5 < zw v8 then zx zblk xs 172 48 [some (.inr (.inr (some p))), none, none, some (.inl v3), some (.inr (.inr v4)), some (.inr (.inl v5)), none, some (.inl v7)] [] h else (zck h (some p) 6 (zci (zx zblk xs 144 0 [some (.inr (.inr (some p))), some (.inl v3), some (.inl v7), some (.inl v8)] [] h) fun r2 h1 => (zcl (zx zblk xs 170 0 [some (.inr (.inl v5)), none, some (.inr (.inl (zw r2))), none] [] h1) fun r4 h3 => zx zblk xs 172 19 [some (.inr (.inr (some p))), none, none, some (.inl v3), some (.inr (.inr v4)), some (.inr (.inl r4)), none, some (.inl v7), some (.inl (v8 + 1))] [] h3)))) := (zx_unfold zblk xs 172 19 _ rfl _ _ _).trans rfl
theorem e_X_mixCode_48 (xs : List Int) (p : Nat) (v3 : Int) (v4 : Option Nat) (v5 : Int) (v7 : Int) (h : zH) : zx zblk xs 172 48 [some (.inr (.inr (some p))), none, none, some (.inl v3), some (.inr (.inr v4)), some (.inr (.inl v5)), none, some (.inl v7)] [] h = (zck h (some p) 6 (zci (zx zblk xs 144 0 [some (.inr (.inr (some p))), some (.inl v3), some (.inl v7), some (.inl 10)] [] h) fun r2 h1 => (zcl (zx zblk xs 170 0 [some (.inr (.inl v5)), none, some (.inr (.inl (zw r2))), none] [] h1) fun r4 h3 => (zck h3 (some p) 6 (zci (zx zblk xs 144 0 [some (.inr (.inr (some p))), some (.inl v3), some (.inl v7), some (.inl 30)] [] h3) fun r6 h5 => (zcl (zx zblk xs 170 0 [some (.inr (.inl r4)), none, some (.inr (.inl (zw r6))), none] [] h5) fun r8 h7 => zx zblk xs 172 6 [some (.inr (.inr (some p))), none, none, some (.inl v3), some (.inr (.inr v4)), some (.inr (.inl r8)), none, some (.inl (v7 + 1))] [] h7)))))) := (zx_unfold zblk xs 172 48 _ rfl _ _ _).trans rfl
theorem e_X_mixCode_88 (xs : List Int) (p : Nat) (v3 : Int) (v4 : Option Nat) (v5 : Int) (h : zH) : zx zblk xs 172 88 [some (.inr (.inr (some p))), none, none, some (.inl v3), some (.inr (.inr v4)), some (.inr (.inl v5))] [] h = (zck h (some p) 6 (zci (zx zblk xs 146 0 [some (.inr (.inr (some p))), some (.inl v3), some (.inl 0)] [] h) fun r2 h1 => (zcl (zx zblk xs 170 0 [some (.inr (.inl v5)), none, some (.inr (.inl (zw r2))), none] [] h1) fun r4 h3 => (zgr h3 (some p) 6 13 fun f5 => (zck h3 f5 2 (zci (zx zblk xs 101 0 [some (.inr (.inr f5)), some (.inr (.inr v4))] [] h3) fun r7 h6 => (zcl (zx zblk xs 170 0 [some (.inr (.inl r4)), none, some (.inr (.inl (zw r7))), none] [] h6) fun r9 h8 => (zck h8 (some p) 6 (zci (zx zblk xs 150 0 [some (.inr (.inr (some p))), some (.inl v3)] [] h8) fun r11 h10 => (zcl (zx zblk xs 170 0 [some (.inr (.inl r9)), none, some (.inr (.inl (zw r11))), none] [] h10) fun r13 h12 => (zck h12 (some p) 6 (zci (zx zblk xs 153 0 [some (.inr (.inr (some p))), some (.inl v3)] [] h12) fun r15 h14 => (zcl (zx zblk xs 170 0 [some (.inr (.inl r13)), none, some (.inr (.inl (zw r15))), none] [] h14) fun r17 h16 => (zck h16 (some p) 6 (zci (zx zblk xs 165 0 [some (.inr (.inr (some p))), some (.inl v3)] [] h16) fun r19 h18 => (zcl (zx zblk xs 170 0 [some (.inr (.inl r17)), none, some (.inr (.inl (zw r19))), none] [] h18) fun r21 h20 => some (some (.inr (.inl r21)), h20))))))))))))))))) := (zx_unfold zblk xs 172 88 _ rfl _ _ _).trans rfl
/-- MindReaders.byteOf(JI)I -/
noncomputable abbrev r_X_byteOf (xs : List Int) (v1 : Int) (v2 : Int) (h : zH) : Option zR := zx zblk xs 173 0 [some (.inr (.inl v1)), none, some (.inl v2)] [] h
theorem e_X_byteOf_0 (xs : List Int) (v0 : Int) (v2 : Int) (h : zH) : zx zblk xs 173 0 [some (.inr (.inl v0)), none, some (.inl v2)] [] h = some (some (.inl (zandl (zushrl v0 (8 * v2)) 255)), h) := (zx_unfold zblk xs 173 0 _ rfl _ _ _).trans rfl
/-- MindReaders.lettersIn(J)I -/
noncomputable abbrev r_X_lettersIn (xs : List Int) (v1 : Int) (h : zH) : Option zR := zx zblk xs 174 0 [some (.inr (.inl v1)), none] [] h
theorem e_X_lettersIn_0 (xs : List Int) (v0 : Int) (h : zH) : zx zblk xs 174 0 [some (.inr (.inl v0)), none] [] h = zx zblk xs 174 4 [some (.inr (.inl v0)), none, some (.inl 0), some (.inl 0)] [] h := (zx_unfold zblk xs 174 0 _ rfl _ _ _).trans rfl
theorem e_X_lettersIn_4 (xs : List Int) (v0 : Int) (v2 : Int) (v3 : Int) (h : zH) : zx zblk xs 174 4 [some (.inr (.inl v0)), none, some (.inl v2), some (.inl v3)] [] h = (if zw 8 ≤ zw v3 then zx zblk xs 174 50 [none, none, some (.inl v2)] [] h else (zci (zx zblk xs 173 0 [some (.inr (.inl v0)), none, some (.inl v3)] [] h) fun r2 h1 => (if zw 126 < zw r2 then zx zblk xs 174 34 [] [] h1 else (if zw r2 = 0 then zx zblk xs 174 36 [some (.inr (.inl v0)), none, some (.inl v2), some (.inl v3), some (.inl r2)] [] h1 else (if zw v3 ≤ zw v2 then zx zblk xs 174 36 [some (.inr (.inl v0)), none, some (.inl v2), some (.inl v3), some (.inl r2)] [] h1 else zx zblk xs 174 34 [] [] h1))))) := (zx_unfold zblk xs 174 4 _ rfl _ _ _).trans rfl
theorem e_X_lettersIn_34 (xs : List Int)  (h : zH) : zx zblk xs 174 34 [] [] h = some (some (.inl (-1)), h) := (zx_unfold zblk xs 174 34 _ rfl _ _ _).trans rfl
theorem e_X_lettersIn_36 (xs : List Int) (v0 : Int) (v2 : Int) (v3 : Int) (v4 : Int) (h : zH) : zx zblk xs 174 36 [some (.inr (.inl v0)), none, some (.inl v2), some (.inl v3), some (.inl v4)] [] h = (if zw v4 = 0 then zx zblk xs 174 44 [some (.inr (.inl v0)), none, some (.inl v2), some (.inl v3)] [] h else zx zblk xs 174 44 [some (.inr (.inl v0)), none, some (.inl (v2 + 1)), some (.inl v3)] [] h) := (zx_unfold zblk xs 174 36 _ rfl _ _ _).trans rfl
theorem e_X_lettersIn_44 (xs : List Int) (v0 : Int) (v2 : Int) (v3 : Int) (h : zH) : zx zblk xs 174 44 [some (.inr (.inl v0)), none, some (.inl v2), some (.inl v3)] [] h = zx zblk xs 174 4 [some (.inr (.inl v0)), none, some (.inl v2), some (.inl (v3 + 1))] [] h := (zx_unfold zblk xs 174 44 _ rfl _ _ _).trans rfl
theorem e_X_lettersIn_50 (xs : List Int) (v2 : Int) (h : zH) : zx zblk xs 174 50 [none, none, some (.inl v2)] [] h = some (some (.inl v2), h) := (zx_unfold zblk xs 174 50 _ rfl _ _ _).trans rfl
/-- MindReaders.signalOf(I)I -/
noncomputable abbrev r_X_signalOf (xs : List Int) (v1 : Int) (h : zH) : Option zR := zx zblk xs 175 0 [some (.inl v1)] [] h
theorem e_X_signalOf_0 (xs : List Int) (v0 : Int) (h : zH) : zx zblk xs 175 0 [some (.inl v0)] [] h = (if zw v0 < zw 97 then zx zblk xs 175 19 [] [] h else (if zw 104 < zw v0 then zx zblk xs 175 19 [] [] h else zx zblk xs 175 20 [] [.inl (v0 - 97)] h)) := (zx_unfold zblk xs 175 0 _ rfl _ _ _).trans rfl
theorem e_X_signalOf_19 (xs : List Int)  (h : zH) : zx zblk xs 175 19 [] [] h = zx zblk xs 175 20 [] [.inl (-1)] h := (zx_unfold zblk xs 175 19 _ rfl _ _ _).trans rfl
theorem e_X_signalOf_20 (xs : List Int) (s0 : Int) (h : zH) : zx zblk xs 175 20 [] [.inl s0] h = some (some (.inl s0), h) := (zx_unfold zblk xs 175 20 _ rfl _ _ _).trans rfl
/-- MindReaders.firstFault()I -/
noncomputable abbrev r_X_firstFault (xs : List Int) (p : Nat) (h : zH) : Option zR := zx zblk xs 176 0 [some (.inr (.inr (some p)))] [] h
theorem e_X_firstFault_0 (xs : List Int) (p : Nat) (h : zH) : zx zblk xs 176 0 [some (.inr (.inr (some p)))] [] h = zx zblk xs 176 6 [some (.inr (.inr (some p))), some (.inl 0), some (.inl 0), some (.inl 0)] [] h := (zx_unfold zblk xs 176 0 _ rfl _ _ _).trans rfl
theorem e_X_firstFault_6 (xs : List Int) (p : Nat) (v1 : Int) (v2 : Int) (v3 : Int) (h : zH) : zx zblk xs 176 6 [some (.inr (.inr (some p))), some (.inl v1), some (.inl v2), some (.inl v3)] [] h = (zgr h (some p) 6 4 fun f1 => (zck h f1 3 (zci (zx zblk xs 106 0 [some (.inr (.inr f1))] [] h) fun r3 h2 => (if zw r3 ≤ zw v3 then zx zblk xs 176 80 [some (.inr (.inr (some p)))] [] h2 else (zgr h2 (some p) 6 4 fun f4 => (zck h2 f4 3 (zci (zx zblk xs 107 0 [some (.inr (.inr f4)), some (.inl v3)] [] h2) fun r6 h5 => (zci (zx zblk xs 175 0 [some (.inl r6)] [] h5) fun r8 h7 => (if zw r8 = zw (-1) then zx zblk xs 176 47 [some (.inr (.inr (some p))), some (.inl v1), some (.inl v2), some (.inl v3), some (.inl r6)] [] h7 else (if zw 5 ≤ zw v2 then zx zblk xs 176 47 [some (.inr (.inr (some p))), some (.inl v1), some (.inl v2), some (.inl v3), some (.inl r6)] [] h7 else zx zblk xs 176 74 [some (.inr (.inr (some p))), some (.inl v1), some (.inl (v2 + 1)), some (.inl v3)] [] h7)))))))))) := (zx_unfold zblk xs 176 6 _ rfl _ _ _).trans rfl
theorem e_X_firstFault_47 (xs : List Int) (p : Nat) (v1 : Int) (v2 : Int) (v3 : Int) (v4 : Int) (h : zH) : zx zblk xs 176 47 [some (.inr (.inr (some p))), some (.inl v1), some (.inl v2), some (.inl v3), some (.inl v4)] [] h = (if zw v4 ≠ zw 44 then zx zblk xs 176 72 [none, none, none, some (.inl v3)] [] h else (if zw v2 ≤ 0 then zx zblk xs 176 72 [none, none, none, some (.inl v3)] [] h else (if zw 7 ≤ zw v1 then zx zblk xs 176 72 [none, none, none, some (.inl v3)] [] h else zx zblk xs 176 74 [some (.inr (.inr (some p))), some (.inl (v1 + 1)), some (.inl 0), some (.inl v3)] [] h))) := (zx_unfold zblk xs 176 47 _ rfl _ _ _).trans rfl
theorem e_X_firstFault_72 (xs : List Int) (v3 : Int) (h : zH) : zx zblk xs 176 72 [none, none, none, some (.inl v3)] [] h = some (some (.inl v3), h) := (zx_unfold zblk xs 176 72 _ rfl _ _ _).trans rfl
theorem e_X_firstFault_74 (xs : List Int) (p : Nat) (v1 : Int) (v2 : Int) (v3 : Int) (h : zH) : zx zblk xs 176 74 [some (.inr (.inr (some p))), some (.inl v1), some (.inl v2), some (.inl v3)] [] h = zx zblk xs 176 6 [some (.inr (.inr (some p))), some (.inl v1), some (.inl v2), some (.inl (v3 + 1))] [] h := (zx_unfold zblk xs 176 74 _ rfl _ _ _).trans rfl
theorem e_X_firstFault_80 (xs : List Int) (p : Nat) (h : zH) : zx zblk xs 176 80 [some (.inr (.inr (some p)))] [] h = (zgr h (some p) 6 4 fun f1 => (zck h f1 3 (zci (zx zblk xs 106 0 [some (.inr (.inr f1))] [] h) fun r3 h2 => some (some (.inl r3), h2)))) := (zx_unfold zblk xs 176 80 _ rfl _ _ _).trans rfl
/-- MindReaders.readPage()Z -/
noncomputable abbrev r_X_readPage (xs : List Int) (p : Nat) (h : zH) : Option zR := zx zblk xs 177 0 [some (.inr (.inr (some p)))] [] h
theorem e_X_readPage_0 (xs : List Int) (p : Nat) (h : zH) : zx zblk xs 177 0 [some (.inr (.inr (some p)))] [] h = (zgr h (some p) 6 9 fun f1 => (zck h f1 3 (zcv (zx zblk xs 111 0 [some (.inr (.inr f1))] [] h) fun h2 => zx zblk xs 177 9 [some (.inr (.inr (some p))), some (.inl 0)] [] h2))) := (zx_unfold zblk xs 177 0 _ rfl _ _ _).trans rfl
theorem e_X_readPage_9 (xs : List Int) (p : Nat) (v1 : Int) (h : zH) : zx zblk xs 177 9 [some (.inr (.inr (some p))), some (.inl v1)] [] h = (zgr h (some p) 6 4 fun f1 => (zck h f1 3 (zci (zx zblk xs 106 0 [some (.inr (.inr f1))] [] h) fun r3 h2 => (if zw r3 ≤ zw v1 then zx zblk xs 177 53 [] [] h2 else (zgr h2 (some p) 6 4 fun f4 => (zck h2 f4 3 (zci (zx zblk xs 107 0 [some (.inr (.inr f4)), some (.inl v1)] [] h2) fun r6 h5 => (zci (zx zblk xs 175 0 [some (.inl r6)] [] h5) fun r8 h7 => (if zw r8 ≠ zw (-1) then zx zblk xs 177 39 [some (.inr (.inr (some p))), some (.inl v1), some (.inl r8)] [] h7 else (if 0 = 0 ∨ 0 = 1 then some (some (.inl 0), h7) else none)))))))))) := (zx_unfold zblk xs 177 9 _ rfl _ _ _).trans rfl
theorem e_X_readPage_39 (xs : List Int) (p : Nat) (v1 : Int) (v2 : Int) (h : zH) : zx zblk xs 177 39 [some (.inr (.inr (some p))), some (.inl v1), some (.inl v2)] [] h = (zgr h (some p) 6 9 fun f1 => (zck h f1 3 (zcv (zx zblk xs 109 0 [some (.inr (.inr f1)), some (.inl v2)] [] h) fun h2 => zx zblk xs 177 9 [some (.inr (.inr (some p))), some (.inl (v1 + 1))] [] h2))) := (zx_unfold zblk xs 177 39 _ rfl _ _ _).trans rfl
theorem e_X_readPage_53 (xs : List Int)  (h : zH) : zx zblk xs 177 53 [] [] h = (if 1 = 0 ∨ 1 = 1 then some (some (.inl 1), h) else none) := (zx_unfold zblk xs 177 53 _ rfl _ _ _).trans rfl
/-- MindReaders.hearPage()Z -/
noncomputable abbrev r_X_hearPage (xs : List Int) (p : Nat) (h : zH) : Option zR := zx zblk xs 178 0 [some (.inr (.inr (some p)))] [] h
theorem e_X_hearPage_0 (xs : List Int) (p : Nat) (h : zH) : zx zblk xs 178 0 [some (.inr (.inr (some p)))] [] h = (zck h (some p) 6 (zci (zx zblk xs 177 0 [some (.inr (.inr (some p)))] [] h) fun r2 h1 => (if zw r2 ≠ 0 then zx zblk xs 178 9 [some (.inr (.inr (some p)))] [] h1 else (if 0 = 0 ∨ 0 = 1 then some (some (.inl 0), h1) else none)))) := (zx_unfold zblk xs 178 0 _ rfl _ _ _).trans rfl
theorem e_X_hearPage_9 (xs : List Int) (p : Nat) (h : zH) : zx zblk xs 178 9 [some (.inr (.inr (some p)))] [] h = (zgr h (some p) 6 0 fun f1 => (zgr h (some p) 6 9 fun f2 => (zgr h (some p) 6 10 fun f3 => (zck h f1 5 (zcv (zx zblk xs 133 0 [some (.inr (.inr f1)), some (.inr (.inr f2)), some (.inl 0), some (.inr (.inr f3))] [] h) fun h4 => (if 1 = 0 ∨ 1 = 1 then some (some (.inl 1), h4) else none)))))) := (zx_unfold zblk xs 178 9 _ rfl _ _ _).trans rfl
/-- MindReaders.isWeight(I)Z -/
noncomputable abbrev r_X_isWeight (xs : List Int) (v1 : Int) (h : zH) : Option zR := zx zblk xs 179 0 [some (.inl v1)] [] h
theorem e_X_isWeight_0 (xs : List Int) (v0 : Int) (h : zH) : zx zblk xs 179 0 [some (.inl v0)] [] h = (if zw v0 < zw 1 then zx zblk xs 179 15 [] [] h else (if zw 99 < zw v0 then zx zblk xs 179 15 [] [] h else zx zblk xs 179 16 [] [.inl 1] h)) := (zx_unfold zblk xs 179 0 _ rfl _ _ _).trans rfl
theorem e_X_isWeight_15 (xs : List Int)  (h : zH) : zx zblk xs 179 15 [] [] h = zx zblk xs 179 16 [] [.inl 0] h := (zx_unfold zblk xs 179 15 _ rfl _ _ _).trans rfl
theorem e_X_isWeight_16 (xs : List Int) (s0 : Int) (h : zH) : zx zblk xs 179 16 [] [.inl s0] h = (if s0 = 0 ∨ s0 = 1 then some (some (.inl s0), h) else none) := (zx_unfold zblk xs 179 16 _ rfl _ _ _).trans rfl
/-- MindReaders.isPart(I)Z -/
noncomputable abbrev r_X_isPart (xs : List Int) (v1 : Int) (h : zH) : Option zR := zx zblk xs 180 0 [some (.inl v1)] [] h
theorem e_X_isPart_0 (xs : List Int) (v0 : Int) (h : zH) : zx zblk xs 180 0 [some (.inl v0)] [] h = (if zw v0 = 0 then zx zblk xs 180 9 [] [] h else (if zw v0 ≠ zw 1 then zx zblk xs 180 13 [] [] h else zx zblk xs 180 9 [] [] h)) := (zx_unfold zblk xs 180 0 _ rfl _ _ _).trans rfl
theorem e_X_isPart_9 (xs : List Int)  (h : zH) : zx zblk xs 180 9 [] [] h = zx zblk xs 180 14 [] [.inl 1] h := (zx_unfold zblk xs 180 9 _ rfl _ _ _).trans rfl
theorem e_X_isPart_13 (xs : List Int)  (h : zH) : zx zblk xs 180 13 [] [] h = zx zblk xs 180 14 [] [.inl 0] h := (zx_unfold zblk xs 180 13 _ rfl _ _ _).trans rfl
theorem e_X_isPart_14 (xs : List Int) (s0 : Int) (h : zH) : zx zblk xs 180 14 [] [.inl s0] h = (if s0 = 0 ∨ s0 = 1 then some (some (.inl s0), h) else none) := (zx_unfold zblk xs 180 14 _ rfl _ _ _).trans rfl
/-- MindReaders.isThing(I)Z -/
noncomputable abbrev r_X_isThing (xs : List Int) (p : Nat) (v1 : Int) (h : zH) : Option zR := zx zblk xs 181 0 [some (.inr (.inr (some p))), some (.inl v1)] [] h
theorem e_X_isThing_0 (xs : List Int) (p : Nat) (v1 : Int) (h : zH) : zx zblk xs 181 0 [some (.inr (.inr (some p))), some (.inl v1)] [] h = (if zw v1 < 0 then zx zblk xs 181 19 [] [] h else (zgr h (some p) 6 1 fun f1 => (zck h f1 3 (zci (zx zblk xs 106 0 [some (.inr (.inr f1))] [] h) fun r3 h2 => (if zw r3 ≤ zw v1 then zx zblk xs 181 19 [] [] h2 else zx zblk xs 181 20 [] [.inl 1] h2))))) := (zx_unfold zblk xs 181 0 _ rfl _ _ _).trans rfl
theorem e_X_isThing_19 (xs : List Int)  (h : zH) : zx zblk xs 181 19 [] [] h = zx zblk xs 181 20 [] [.inl 0] h := (zx_unfold zblk xs 181 19 _ rfl _ _ _).trans rfl
theorem e_X_isThing_20 (xs : List Int) (s0 : Int) (h : zH) : zx zblk xs 181 20 [] [.inl s0] h = (if s0 = 0 ∨ s0 = 1 then some (some (.inl s0), h) else none) := (zx_unfold zblk xs 181 20 _ rfl _ _ _).trans rfl
/-- MindReaders.codeAt(I)LMindReaders$Code; -/
noncomputable abbrev r_X_codeAt (xs : List Int) (p : Nat) (v1 : Int) (h : zH) : Option zR := zx zblk xs 182 0 [some (.inr (.inr (some p))), some (.inl v1)] [] h
theorem e_X_codeAt_0 (xs : List Int) (p : Nat) (v1 : Int) (h : zH) : zx zblk xs 182 0 [some (.inr (.inr (some p))), some (.inl v1)] [] h = (if zw v1 < 0 then zx zblk xs 182 30 [] [] h else (zgi h (some p) 6 3 fun f1 => (if zw f1 ≤ zw v1 then zx zblk xs 182 30 [] [] h else (zgr h (some p) 6 2 fun f2 => (zln xs h f2 fun n3 => (if zw n3 ≤ zw v1 then zx zblk xs 182 30 [] [] h else (zgr h (some p) 6 2 fun f4 => (zaa xs h f4 102 v1 fun a5 => zx zblk xs 182 31 [] [.inr (.inr a5)] h)))))))) := (zx_unfold zblk xs 182 0 _ rfl _ _ _).trans rfl
theorem e_X_codeAt_30 (xs : List Int)  (h : zH) : zx zblk xs 182 30 [] [] h = zx zblk xs 182 31 [] [.inr (.inr none)] h := (zx_unfold zblk xs 182 30 _ rfl _ _ _).trans rfl
theorem e_X_codeAt_31 (xs : List Int) (s0 : Option Nat) (h : zH) : zx zblk xs 182 31 [] [.inr (.inr s0)] h = some (some (.inr (.inr s0)), h) := (zx_unfold zblk xs 182 31 _ rfl _ _ _).trans rfl
/-- MindReaders.thingsSaid(LMindReaders$Code;)I -/
noncomputable abbrev r_X_thingsSaid (xs : List Int) (p : Nat) (v1 : Option Nat) (h : zH) : Option zR := zx zblk xs 183 0 [some (.inr (.inr (some p))), some (.inr (.inr v1))] [] h
theorem e_X_thingsSaid_0 (xs : List Int) (p : Nat) (v1 : Option Nat) (h : zH) : zx zblk xs 183 0 [some (.inr (.inr (some p))), some (.inr (.inr v1))] [] h = (zck h v1 0 (zci (zx zblk xs 83 0 [some (.inr (.inr v1))] [] h) fun r2 h1 => (zgr h1 (some p) 6 1 fun f3 => (zck h1 f3 3 (zci (zx zblk xs 106 0 [some (.inr (.inr f3))] [] h1) fun r5 h4 => some (some (.inl (if zw r5 < zw r2 then r5 else r2)), h4)))))) := (zx_unfold zblk xs 183 0 _ rfl _ _ _).trans rfl
/-- MindReaders.longOf(LMindReaders$Code;I)I -/
noncomputable abbrev r_X_longOf (xs : List Int) (p : Nat) (v1 : Option Nat) (v2 : Int) (h : zH) : Option zR := zx zblk xs 184 0 [some (.inr (.inr (some p))), some (.inr (.inr v1)), some (.inl v2)] [] h
theorem e_X_longOf_0 (xs : List Int) (p : Nat) (v1 : Option Nat) (v2 : Int) (h : zH) : zx zblk xs 184 0 [some (.inr (.inr (some p))), some (.inr (.inr v1)), some (.inl v2)] [] h = (zgr h (some p) 6 0 fun f1 => (zck h v1 0 (zcr (zx zblk xs 84 0 [some (.inr (.inr v1)), some (.inl v2)] [] h) fun r3 h2 => (zck h2 f1 5 (zci (zx zblk xs 131 0 [some (.inr (.inr f1)), some (.inr (.inr r3))] [] h2) fun r5 h4 => some (some (.inl r5), h4)))))) := (zx_unfold zblk xs 184 0 _ rfl _ _ _).trans rfl
/-- MindReaders.ofPair(II)I -/
noncomputable abbrev r_X_ofPair (xs : List Int) (v1 : Int) (v2 : Int) (h : zH) : Option zR := zx zblk xs 185 0 [some (.inl v1), some (.inl v2)] [] h
theorem e_X_ofPair_0 (xs : List Int) (v0 : Int) (v1 : Int) (h : zH) : zx zblk xs 185 0 [some (.inl v0), some (.inl v1)] [] h = (if zw v0 ≠ zw (-1) then zx zblk xs 185 7 [some (.inl v0), some (.inl v1)] [] h else some (some (.inl (-1)), h)) := (zx_unfold zblk xs 185 0 _ rfl _ _ _).trans rfl
theorem e_X_ofPair_7 (xs : List Int) (v0 : Int) (v1 : Int) (h : zH) : zx zblk xs 185 7 [some (.inl v0), some (.inl v1)] [] h = (if zw v1 ≠ 0 then zx zblk xs 185 18 [some (.inl v0)] [] h else (if zw 8 = 0 then none else zx zblk xs 185 22 [] [.inl ((zw v0).tdiv (zw 8))] h)) := (zx_unfold zblk xs 185 7 _ rfl _ _ _).trans rfl
theorem e_X_ofPair_18 (xs : List Int) (v0 : Int) (h : zH) : zx zblk xs 185 18 [some (.inl v0)] [] h = (if zw 8 = 0 then none else zx zblk xs 185 22 [] [.inl ((zw v0).tmod (zw 8))] h) := (zx_unfold zblk xs 185 18 _ rfl _ _ _).trans rfl
theorem e_X_ofPair_22 (xs : List Int) (s0 : Int) (h : zH) : zx zblk xs 185 22 [] [.inl s0] h = some (some (.inl s0), h) := (zx_unfold zblk xs 185 22 _ rfl _ _ _).trans rfl
/-- MindReaders.dealtTo(LMindReaders$Code;I)I -/
noncomputable abbrev r_X_dealtTo (xs : List Int) (p : Nat) (v1 : Option Nat) (v2 : Int) (h : zH) : Option zR := zx zblk xs 186 0 [some (.inr (.inr (some p))), some (.inr (.inr v1)), some (.inl v2)] [] h
theorem e_X_dealtTo_0 (xs : List Int) (p : Nat) (v1 : Option Nat) (v2 : Int) (h : zH) : zx zblk xs 186 0 [some (.inr (.inr (some p))), some (.inr (.inr v1)), some (.inl v2)] [] h = (zck h (some p) 6 (zci (zx zblk xs 183 0 [some (.inr (.inr (some p))), some (.inr (.inr v1))] [] h) fun r2 h1 => (if zw v2 < 0 then zx zblk xs 186 15 [] [] h1 else (if zw v2 < zw r2 then zx zblk xs 186 17 [some (.inr (.inr (some p))), some (.inr (.inr v1)), some (.inl v2), some (.inl r2)] [] h1 else zx zblk xs 186 15 [] [] h1)))) := (zx_unfold zblk xs 186 0 _ rfl _ _ _).trans rfl
theorem e_X_dealtTo_15 (xs : List Int)  (h : zH) : zx zblk xs 186 15 [] [] h = some (some (.inl (-1)), h) := (zx_unfold zblk xs 186 15 _ rfl _ _ _).trans rfl
theorem e_X_dealtTo_17 (xs : List Int) (p : Nat) (v1 : Option Nat) (v2 : Int) (v3 : Int) (h : zH) : zx zblk xs 186 17 [some (.inr (.inr (some p))), some (.inr (.inr v1)), some (.inl v2), some (.inl v3)] [] h = zx zblk xs 186 23 [some (.inr (.inr (some p))), some (.inr (.inr v1)), some (.inl v2), some (.inl v3), some (.inl 0), some (.inl 0)] [] h := (zx_unfold zblk xs 186 17 _ rfl _ _ _).trans rfl
theorem e_X_dealtTo_23 (xs : List Int) (p : Nat) (v1 : Option Nat) (v2 : Int) (v3 : Int) (v4 : Int) (v5 : Int) (h : zH) : zx zblk xs 186 23 [some (.inr (.inr (some p))), some (.inr (.inr v1)), some (.inl v2), some (.inl v3), some (.inl v4), some (.inl v5)] [] h = (if zw v3 ≤ zw v5 then zx zblk xs 186 66 [some (.inr (.inr (some p))), some (.inr (.inr v1)), none, some (.inl v3), some (.inl v4)] [] h else (zgr h (some p) 6 1 fun f1 => (zck h f1 3 (zci (zx zblk xs 107 0 [some (.inr (.inr f1)), some (.inl v5)] [] h) fun r3 h2 => (zgr h2 (some p) 6 1 fun f4 => (zck h2 f4 3 (zci (zx zblk xs 107 0 [some (.inr (.inr f4)), some (.inl v2)] [] h2) fun r6 h5 => (zci (zx zblk xs 188 0 [some (.inl (-r3)), some (.inl v5), some (.inl (-r6)), some (.inl v2)] [] h5) fun r8 h7 => (if zw r8 = 0 then zx zblk xs 186 60 [some (.inr (.inr (some p))), some (.inr (.inr v1)), some (.inl v2), some (.inl v3), some (.inl v4), some (.inl v5)] [] h7 else zx zblk xs 186 60 [some (.inr (.inr (some p))), some (.inr (.inr v1)), some (.inl v2), some (.inl v3), some (.inl (v4 + 1)), some (.inl v5)] [] h7))))))))) := (zx_unfold zblk xs 186 23 _ rfl _ _ _).trans rfl
theorem e_X_dealtTo_60 (xs : List Int) (p : Nat) (v1 : Option Nat) (v2 : Int) (v3 : Int) (v4 : Int) (v5 : Int) (h : zH) : zx zblk xs 186 60 [some (.inr (.inr (some p))), some (.inr (.inr v1)), some (.inl v2), some (.inl v3), some (.inl v4), some (.inl v5)] [] h = zx zblk xs 186 23 [some (.inr (.inr (some p))), some (.inr (.inr v1)), some (.inl v2), some (.inl v3), some (.inl v4), some (.inl (v5 + 1))] [] h := (zx_unfold zblk xs 186 60 _ rfl _ _ _).trans rfl
theorem e_X_dealtTo_66 (xs : List Int) (p : Nat) (v1 : Option Nat) (v3 : Int) (v4 : Int) (h : zH) : zx zblk xs 186 66 [some (.inr (.inr (some p))), some (.inr (.inr v1)), none, some (.inl v3), some (.inl v4)] [] h = zx zblk xs 186 69 [some (.inr (.inr (some p))), some (.inr (.inr v1)), none, some (.inl v3), some (.inl v4), some (.inl 0)] [] h := (zx_unfold zblk xs 186 66 _ rfl _ _ _).trans rfl
theorem e_X_dealtTo_69 (xs : List Int) (p : Nat) (v1 : Option Nat) (v3 : Int) (v4 : Int) (v5 : Int) (h : zH) : zx zblk xs 186 69 [some (.inr (.inr (some p))), some (.inr (.inr v1)), none, some (.inl v3), some (.inl v4), some (.inl v5)] [] h = (if zw v3 ≤ zw v5 then zx zblk xs 186 97 [] [] h else (zck h (some p) 6 (zci (zx zblk xs 187 0 [some (.inr (.inr (some p))), some (.inr (.inr v1)), some (.inl v5), some (.inl v3)] [] h) fun r2 h1 => (if zw r2 ≠ zw v4 then zx zblk xs 186 91 [some (.inr (.inr (some p))), some (.inr (.inr v1)), none, some (.inl v3), some (.inl v4), some (.inl v5)] [] h1 else some (some (.inl v5), h1))))) := (zx_unfold zblk xs 186 69 _ rfl _ _ _).trans rfl
theorem e_X_dealtTo_91 (xs : List Int) (p : Nat) (v1 : Option Nat) (v3 : Int) (v4 : Int) (v5 : Int) (h : zH) : zx zblk xs 186 91 [some (.inr (.inr (some p))), some (.inr (.inr v1)), none, some (.inl v3), some (.inl v4), some (.inl v5)] [] h = zx zblk xs 186 69 [some (.inr (.inr (some p))), some (.inr (.inr v1)), none, some (.inl v3), some (.inl v4), some (.inl (v5 + 1))] [] h := (zx_unfold zblk xs 186 91 _ rfl _ _ _).trans rfl
theorem e_X_dealtTo_97 (xs : List Int)  (h : zH) : zx zblk xs 186 97 [] [] h = some (some (.inl (-1)), h) := (zx_unfold zblk xs 186 97 _ rfl _ _ _).trans rfl
/-- MindReaders.rankByLong(LMindReaders$Code;II)I -/
noncomputable abbrev r_X_rankByLong (xs : List Int) (p : Nat) (v1 : Option Nat) (v2 : Int) (v3 : Int) (h : zH) : Option zR := zx zblk xs 187 0 [some (.inr (.inr (some p))), some (.inr (.inr v1)), some (.inl v2), some (.inl v3)] [] h
theorem e_X_rankByLong_0 (xs : List Int) (p : Nat) (v1 : Option Nat) (v2 : Int) (v3 : Int) (h : zH) : zx zblk xs 187 0 [some (.inr (.inr (some p))), some (.inr (.inr v1)), some (.inl v2), some (.inl v3)] [] h = zx zblk xs 187 6 [some (.inr (.inr (some p))), some (.inr (.inr v1)), some (.inl v2), some (.inl v3), some (.inl 0), some (.inl 0)] [] h := (zx_unfold zblk xs 187 0 _ rfl _ _ _).trans rfl
theorem e_X_rankByLong_6 (xs : List Int) (p : Nat) (v1 : Option Nat) (v2 : Int) (v3 : Int) (v4 : Int) (v5 : Int) (h : zH) : zx zblk xs 187 6 [some (.inr (.inr (some p))), some (.inr (.inr v1)), some (.inl v2), some (.inl v3), some (.inl v4), some (.inl v5)] [] h = (if zw v3 ≤ zw v5 then zx zblk xs 187 43 [none, none, none, none, some (.inl v4)] [] h else (zck h (some p) 6 (zci (zx zblk xs 184 0 [some (.inr (.inr (some p))), some (.inr (.inr v1)), some (.inl v5)] [] h) fun r2 h1 => (zck h1 (some p) 6 (zci (zx zblk xs 184 0 [some (.inr (.inr (some p))), some (.inr (.inr v1)), some (.inl v2)] [] h1) fun r4 h3 => (zci (zx zblk xs 188 0 [some (.inl r2), some (.inl v5), some (.inl r4), some (.inl v2)] [] h3) fun r6 h5 => (if zw r6 = 0 then zx zblk xs 187 37 [some (.inr (.inr (some p))), some (.inr (.inr v1)), some (.inl v2), some (.inl v3), some (.inl v4), some (.inl v5)] [] h5 else zx zblk xs 187 37 [some (.inr (.inr (some p))), some (.inr (.inr v1)), some (.inl v2), some (.inl v3), some (.inl (v4 + 1)), some (.inl v5)] [] h5))))))) := (zx_unfold zblk xs 187 6 _ rfl _ _ _).trans rfl
theorem e_X_rankByLong_37 (xs : List Int) (p : Nat) (v1 : Option Nat) (v2 : Int) (v3 : Int) (v4 : Int) (v5 : Int) (h : zH) : zx zblk xs 187 37 [some (.inr (.inr (some p))), some (.inr (.inr v1)), some (.inl v2), some (.inl v3), some (.inl v4), some (.inl v5)] [] h = zx zblk xs 187 6 [some (.inr (.inr (some p))), some (.inr (.inr v1)), some (.inl v2), some (.inl v3), some (.inl v4), some (.inl (v5 + 1))] [] h := (zx_unfold zblk xs 187 37 _ rfl _ _ _).trans rfl
theorem e_X_rankByLong_43 (xs : List Int) (v4 : Int) (h : zH) : zx zblk xs 187 43 [none, none, none, none, some (.inl v4)] [] h = some (some (.inl v4), h) := (zx_unfold zblk xs 187 43 _ rfl _ _ _).trans rfl
/-- MindReaders.isAhead(IIII)Z -/
noncomputable abbrev r_X_isAhead (xs : List Int) (v1 : Int) (v2 : Int) (v3 : Int) (v4 : Int) (h : zH) : Option zR := zx zblk xs 188 0 [some (.inl v1), some (.inl v2), some (.inl v3), some (.inl v4)] [] h
theorem e_X_isAhead_0 (xs : List Int) (v0 : Int) (v1 : Int) (v2 : Int) (v3 : Int) (h : zH) : zx zblk xs 188 0 [some (.inl v0), some (.inl v1), some (.inl v2), some (.inl v3)] [] h = (if zw v0 < zw v2 then zx zblk xs 188 15 [] [] h else (if zw v0 ≠ zw v2 then zx zblk xs 188 19 [] [] h else (if zw v3 ≤ zw v1 then zx zblk xs 188 19 [] [] h else zx zblk xs 188 15 [] [] h))) := (zx_unfold zblk xs 188 0 _ rfl _ _ _).trans rfl
theorem e_X_isAhead_15 (xs : List Int)  (h : zH) : zx zblk xs 188 15 [] [] h = zx zblk xs 188 20 [] [.inl 1] h := (zx_unfold zblk xs 188 15 _ rfl _ _ _).trans rfl
theorem e_X_isAhead_19 (xs : List Int)  (h : zH) : zx zblk xs 188 19 [] [] h = zx zblk xs 188 20 [] [.inl 0] h := (zx_unfold zblk xs 188 19 _ rfl _ _ _).trans rfl
theorem e_X_isAhead_20 (xs : List Int) (s0 : Int) (h : zH) : zx zblk xs 188 20 [] [.inl s0] h = (if s0 = 0 ∨ s0 = 1 then some (some (.inl s0), h) else none) := (zx_unfold zblk xs 188 20 _ rfl _ _ _).trans rfl
/-- MindReaders.changeOf(LMindReaders$Code;LMindReaders$Code;)I -/
noncomputable abbrev r_X_changeOf (xs : List Int) (p : Nat) (v1 : Option Nat) (v2 : Option Nat) (h : zH) : Option zR := zx zblk xs 189 0 [some (.inr (.inr (some p))), some (.inr (.inr v1)), some (.inr (.inr v2))] [] h
theorem e_X_changeOf_0 (xs : List Int) (p : Nat) (v1 : Option Nat) (v2 : Option Nat) (h : zH) : zx zblk xs 189 0 [some (.inr (.inr (some p))), some (.inr (.inr v1)), some (.inr (.inr v2))] [] h = zx zblk xs 189 5 [some (.inr (.inr (some p))), some (.inr (.inr v1)), some (.inr (.inr v2)), some (.inl 0), some (.inl 0)] [] h := (zx_unfold zblk xs 189 0 _ rfl _ _ _).trans rfl
theorem e_X_changeOf_5 (xs : List Int) (p : Nat) (v1 : Option Nat) (v2 : Option Nat) (v3 : Int) (v4 : Int) (h : zH) : zx zblk xs 189 5 [some (.inr (.inr (some p))), some (.inr (.inr v1)), some (.inr (.inr v2)), some (.inl v3), some (.inl v4)] [] h = (zck h v2 0 (zci (zx zblk xs 83 0 [some (.inr (.inr v2))] [] h) fun r2 h1 => (if zw r2 ≤ zw v4 then zx zblk xs 189 57 [none, none, none, some (.inl v3)] [] h1 else (zck h1 v1 0 (zci (zx zblk xs 83 0 [some (.inr (.inr v1))] [] h1) fun r4 h3 => (if zw r4 ≤ zw v4 then zx zblk xs 189 41 [some (.inr (.inr (some p))), some (.inr (.inr v1)), some (.inr (.inr v2)), some (.inl v3), some (.inl v4)] [] h3 else (zck h3 v1 0 (zcr (zx zblk xs 84 0 [some (.inr (.inr v1)), some (.inl v4)] [] h3) fun r6 h5 => (zck h5 v2 0 (zcr (zx zblk xs 84 0 [some (.inr (.inr v2)), some (.inl v4)] [] h5) fun r8 h7 => (zck h7 r6 3 (zci (zx zblk xs 113 0 [some (.inr (.inr r6)), some (.inr (.inr r8))] [] h7) fun r10 h9 => (if zw r10 ≠ 0 then zx zblk xs 189 51 [some (.inr (.inr (some p))), some (.inr (.inr v1)), some (.inr (.inr v2)), some (.inl v3), some (.inl v4)] [] h9 else zx zblk xs 189 41 [some (.inr (.inr (some p))), some (.inr (.inr v1)), some (.inr (.inr v2)), some (.inl v3), some (.inl v4)] [] h9))))))))))))) := (zx_unfold zblk xs 189 5 _ rfl _ _ _).trans rfl
theorem e_X_changeOf_41 (xs : List Int) (p : Nat) (v1 : Option Nat) (v2 : Option Nat) (v3 : Int) (v4 : Int) (h : zH) : zx zblk xs 189 41 [some (.inr (.inr (some p))), some (.inr (.inr v1)), some (.inr (.inr v2)), some (.inl v3), some (.inl v4)] [] h = (zck h (some p) 6 (zci (zx zblk xs 184 0 [some (.inr (.inr (some p))), some (.inr (.inr v2)), some (.inl v4)] [] h) fun r2 h1 => zx zblk xs 189 51 [some (.inr (.inr (some p))), some (.inr (.inr v1)), some (.inr (.inr v2)), some (.inl (v3 + r2)), some (.inl v4)] [] h1)) := (zx_unfold zblk xs 189 41 _ rfl _ _ _).trans rfl
theorem e_X_changeOf_51 (xs : List Int) (p : Nat) (v1 : Option Nat) (v2 : Option Nat) (v3 : Int) (v4 : Int) (h : zH) : zx zblk xs 189 51 [some (.inr (.inr (some p))), some (.inr (.inr v1)), some (.inr (.inr v2)), some (.inl v3), some (.inl v4)] [] h = zx zblk xs 189 5 [some (.inr (.inr (some p))), some (.inr (.inr v1)), some (.inr (.inr v2)), some (.inl v3), some (.inl (v4 + 1))] [] h := (zx_unfold zblk xs 189 51 _ rfl _ _ _).trans rfl
theorem e_X_changeOf_57 (xs : List Int) (v3 : Int) (h : zH) : zx zblk xs 189 57 [none, none, none, some (.inl v3)] [] h = some (some (.inl v3), h) := (zx_unfold zblk xs 189 57 _ rfl _ _ _).trans rfl
/-- MindReaders.notesLet(LMindReaders$Code;II)Z -/
noncomputable abbrev r_X_notesLet (xs : List Int) (p : Nat) (v1 : Option Nat) (v2 : Int) (v3 : Int) (h : zH) : Option zR := zx zblk xs 190 0 [some (.inr (.inr (some p))), some (.inr (.inr v1)), some (.inl v2), some (.inl v3)] [] h
theorem e_X_notesLet_0 (xs : List Int) (p : Nat) (v1 : Option Nat) (v2 : Int) (v3 : Int) (h : zH) : zx zblk xs 190 0 [some (.inr (.inr (some p))), some (.inr (.inr v1)), some (.inl v2), some (.inl v3)] [] h = zx zblk xs 190 3 [some (.inr (.inr (some p))), some (.inr (.inr v1)), some (.inl v2), some (.inl v3), some (.inl 0)] [] h := (zx_unfold zblk xs 190 0 _ rfl _ _ _).trans rfl
theorem e_X_notesLet_3 (xs : List Int) (p : Nat) (v1 : Option Nat) (v2 : Int) (v3 : Int) (v4 : Int) (h : zH) : zx zblk xs 190 3 [some (.inr (.inr (some p))), some (.inr (.inr v1)), some (.inl v2), some (.inl v3), some (.inl v4)] [] h = (zgr h (some p) 6 5 fun f1 => (zck h f1 1 (zci (zx zblk xs 94 0 [some (.inr (.inr f1))] [] h) fun r3 h2 => (if zw r3 ≤ zw v4 then zx zblk xs 190 88 [] [] h2 else (zgr h2 (some p) 6 5 fun f4 => (zck h2 f4 1 (zci (zx zblk xs 95 0 [some (.inr (.inr f4)), some (.inl v4)] [] h2) fun r6 h5 => (if zw r6 < 0 then zx zblk xs 190 37 [] [] h5 else (if zw r6 < zw v2 then zx zblk xs 190 39 [some (.inr (.inr (some p))), some (.inr (.inr v1)), some (.inl v2), some (.inl v3), some (.inl v4), some (.inl r6)] [] h5 else zx zblk xs 190 37 [] [] h5))))))))) := (zx_unfold zblk xs 190 3 _ rfl _ _ _).trans rfl
theorem e_X_notesLet_37 (xs : List Int)  (h : zH) : zx zblk xs 190 37 [] [] h = (if 0 = 0 ∨ 0 = 1 then some (some (.inl 0), h) else none) := (zx_unfold zblk xs 190 37 _ rfl _ _ _).trans rfl
theorem e_X_notesLet_39 (xs : List Int) (p : Nat) (v1 : Option Nat) (v2 : Int) (v3 : Int) (v4 : Int) (v5 : Int) (h : zH) : zx zblk xs 190 39 [some (.inr (.inr (some p))), some (.inr (.inr v1)), some (.inl v2), some (.inl v3), some (.inl v4), some (.inl v5)] [] h = (zgr h (some p) 6 0 fun f1 => (zgr h (some p) 6 5 fun f2 => (zck h f2 1 (zcr (zx zblk xs 96 0 [some (.inr (.inr f2)), some (.inl v4)] [] h) fun r4 h3 => (zgr h3 (some p) 6 10 fun f5 => (zck h3 f1 5 (zcv (zx zblk xs 133 0 [some (.inr (.inr f1)), some (.inr (.inr r4)), some (.inl 0), some (.inr (.inr f5))] [] h3) fun h6 => (zgr h6 (some p) 6 10 fun f7 => (if zw v2 = 0 then none else (zck h6 v1 0 (zcr (zx zblk xs 85 0 [some (.inr (.inr v1)), some (.inl ((zw (v5 + v3)).tmod (zw v2)))] [] h6) fun r9 h8 => (zck h8 f7 3 (zci (zx zblk xs 113 0 [some (.inr (.inr f7)), some (.inr (.inr r9))] [] h8) fun r11 h10 => (if zw r11 ≠ 0 then zx zblk xs 190 82 [some (.inr (.inr (some p))), some (.inr (.inr v1)), some (.inl v2), some (.inl v3), some (.inl v4)] [] h10 else (if 0 = 0 ∨ 0 = 1 then some (some (.inl 0), h10) else none))))))))))))))) := (zx_unfold zblk xs 190 39 _ rfl _ _ _).trans rfl
theorem e_X_notesLet_82 (xs : List Int) (p : Nat) (v1 : Option Nat) (v2 : Int) (v3 : Int) (v4 : Int) (h : zH) : zx zblk xs 190 82 [some (.inr (.inr (some p))), some (.inr (.inr v1)), some (.inl v2), some (.inl v3), some (.inl v4)] [] h = zx zblk xs 190 3 [some (.inr (.inr (some p))), some (.inr (.inr v1)), some (.inl v2), some (.inl v3), some (.inl (v4 + 1))] [] h := (zx_unfold zblk xs 190 82 _ rfl _ _ _).trans rfl
theorem e_X_notesLet_88 (xs : List Int)  (h : zH) : zx zblk xs 190 88 [] [] h = (if 1 = 0 ∨ 1 = 1 then some (some (.inl 1), h) else none) := (zx_unfold zblk xs 190 88 _ rfl _ _ _).trans rfl
/-- MindReaders.leastLong(I)J -/
noncomputable abbrev r_X_leastLong (xs : List Int) (p : Nat) (v1 : Int) (h : zH) : Option zR := zx zblk xs 191 0 [some (.inr (.inr (some p))), some (.inl v1)] [] h
theorem e_X_leastLong_0 (xs : List Int) (p : Nat) (v1 : Int) (h : zH) : zx zblk xs 191 0 [some (.inr (.inr (some p))), some (.inl v1)] [] h = (zgr h (some p) 6 11 fun f1 => (zgr h (some p) 6 1 fun f2 => (zck h f1 3 (zcv (zx zblk xs 112 0 [some (.inr (.inr f1)), some (.inr (.inr f2))] [] h) fun h3 => (zgr h3 (some p) 6 11 fun f4 => (zck h3 f4 3 (zci (zx zblk xs 106 0 [some (.inr (.inr f4))] [] h3) fun r6 h5 => (if zw r6 < zw 2 then zx zblk xs 191 27 [] [] h5 else (if zw 2 ≤ zw v1 then zx zblk xs 191 29 [some (.inr (.inr (some p))), some (.inl v1)] [] h5 else zx zblk xs 191 27 [] [] h5))))))))) := (zx_unfold zblk xs 191 0 _ rfl _ _ _).trans rfl
theorem e_X_leastLong_27 (xs : List Int)  (h : zH) : zx zblk xs 191 27 [] [] h = some (some (.inr (.inl 0)), h) := (zx_unfold zblk xs 191 27 _ rfl _ _ _).trans rfl
theorem e_X_leastLong_29 (xs : List Int) (p : Nat) (v1 : Int) (h : zH) : zx zblk xs 191 29 [some (.inr (.inr (some p))), some (.inl v1)] [] h = (zgr h (some p) 6 11 fun f1 => (zck h f1 3 (zci (zx zblk xs 106 0 [some (.inr (.inr f1))] [] h) fun r3 h2 => (if zw (v1 - 1) = 0 then none else zx zblk xs 191 51 [some (.inr (.inr (some p))), some (.inl v1), some (.inr (.inl 0)), none, some (.inl (2 + ((zw (r3 - 2)).tmod (zw (v1 - 1))))), some (.inl 0)] [] h2)))) := (zx_unfold zblk xs 191 29 _ rfl _ _ _).trans rfl
theorem e_X_leastLong_51 (xs : List Int) (p : Nat) (v1 : Int) (v2 : Int) (v4 : Int) (v5 : Int) (h : zH) : zx zblk xs 191 51 [some (.inr (.inr (some p))), some (.inl v1), some (.inr (.inl v2)), none, some (.inl v4), some (.inl v5)] [] h = (if zw 8 ≤ zw v5 then zx zblk xs 191 124 [none, none, some (.inr (.inl v2))] [] h else (zgr h (some p) 6 11 fun f1 => (zck h f1 3 (zci (zx zblk xs 106 0 [some (.inr (.inr f1))] [] h) fun r3 h2 => (if zw r3 ≤ zw 1 then zx zblk xs 191 124 [none, none, some (.inr (.inl v2))] [] h2 else zx zblk xs 191 75 [some (.inr (.inr (some p))), some (.inl v1), some (.inr (.inl v2)), none, some (.inl v4), some (.inl v5), some (.inl 0), some (.inl 0)] [] h2))))) := (zx_unfold zblk xs 191 51 _ rfl _ _ _).trans rfl
theorem e_X_leastLong_75 (xs : List Int) (p : Nat) (v1 : Int) (v2 : Int) (v4 : Int) (v5 : Int) (v6 : Int) (v7 : Int) (h : zH) : zx zblk xs 191 75 [some (.inr (.inr (some p))), some (.inl v1), some (.inr (.inl v2)), none, some (.inl v4), some (.inl v5), some (.inl v6), some (.inl v7)] [] h = (if zw v4 ≤ zw v7 then zx zblk xs 191 100 [some (.inr (.inr (some p))), some (.inl v1), some (.inr (.inl v2)), none, none, some (.inl v5), some (.inl v6)] [] h else (zgr h (some p) 6 11 fun f1 => (zck h f1 3 (zci (zx zblk xs 118 0 [some (.inr (.inr f1))] [] h) fun r3 h2 => zx zblk xs 191 75 [some (.inr (.inr (some p))), some (.inl v1), some (.inr (.inl v2)), none, some (.inl v4), some (.inl v5), some (.inl (v6 + r3)), some (.inl (v7 + 1))] [] h2)))) := (zx_unfold zblk xs 191 75 _ rfl _ _ _).trans rfl
theorem e_X_leastLong_100 (xs : List Int) (p : Nat) (v1 : Int) (v2 : Int) (v5 : Int) (v6 : Int) (h : zH) : zx zblk xs 191 100 [some (.inr (.inr (some p))), some (.inl v1), some (.inr (.inl v2)), none, none, some (.inl v5), some (.inl v6)] [] h = (zgr h (some p) 6 11 fun f1 => (zck h f1 3 (zcv (zx zblk xs 109 0 [some (.inr (.inr f1)), some (.inl v6)] [] h) fun h2 => zx zblk xs 191 51 [some (.inr (.inr (some p))), some (.inl v1), some (.inr (.inl (v2 + (zw v6)))), none, some (.inl v1), some (.inl (v5 + 1))] [] h2))) := (zx_unfold zblk xs 191 100 _ rfl _ _ _).trans rfl
theorem e_X_leastLong_124 (xs : List Int) (v2 : Int) (h : zH) : zx zblk xs 191 124 [none, none, some (.inr (.inl v2))] [] h = some (some (.inr (.inl v2)), h) := (zx_unfold zblk xs 191 124 _ rfl _ _ _).trans rfl
/-- MindReaders.waysNamed(LMindReaders$Code;III)J -/
noncomputable abbrev r_X_waysNamed (xs : List Int) (p : Nat) (v1 : Option Nat) (v2 : Int) (v3 : Int) (v4 : Int) (h : zH) : Option zR := zx zblk xs 192 0 [some (.inr (.inr (some p))), some (.inr (.inr v1)), some (.inl v2), some (.inl v3), some (.inl v4)] [] h
theorem e_X_waysNamed_0 (xs : List Int) (p : Nat) (v1 : Option Nat) (v2 : Int) (v3 : Int) (v4 : Int) (h : zH) : zx zblk xs 192 0 [some (.inr (.inr (some p))), some (.inr (.inr v1)), some (.inl v2), some (.inl v3), some (.inl v4)] [] h = (zck h v1 0 (zcr (zx zblk xs 85 0 [some (.inr (.inr v1)), some (.inl v2)] [] h) fun r2 h1 => (zgr h1 (some p) 6 10 fun f3 => (zck h1 f3 3 (zcv (zx zblk xs 111 0 [some (.inr (.inr f3))] [] h1) fun h4 => zx zblk xs 192 17 [some (.inr (.inr (some p))), some (.inr (.inr v1)), some (.inl v2), some (.inl v3), some (.inl v4), some (.inr (.inr r2)), some (.inl 0)] [] h4))))) := (zx_unfold zblk xs 192 0 _ rfl _ _ _).trans rfl
theorem e_X_waysNamed_17 (xs : List Int) (p : Nat) (v1 : Option Nat) (v2 : Int) (v3 : Int) (v4 : Int) (v5 : Option Nat) (v6 : Int) (h : zH) : zx zblk xs 192 17 [some (.inr (.inr (some p))), some (.inr (.inr v1)), some (.inl v2), some (.inl v3), some (.inl v4), some (.inr (.inr v5)), some (.inl v6)] [] h = (zck h v5 3 (zci (zx zblk xs 106 0 [some (.inr (.inr v5))] [] h) fun r2 h1 => (if zw r2 ≤ zw v6 then zx zblk xs 192 41 [some (.inr (.inr (some p))), some (.inr (.inr v1)), some (.inl v2), some (.inl v3), some (.inl v4), some (.inr (.inr v5))] [] h1 else (zgr h1 (some p) 6 10 fun f3 => (zck h1 f3 3 (zcv (zx zblk xs 109 0 [some (.inr (.inr f3)), some (.inl 0)] [] h1) fun h4 => zx zblk xs 192 17 [some (.inr (.inr (some p))), some (.inr (.inr v1)), some (.inl v2), some (.inl v3), some (.inl v4), some (.inr (.inr v5)), some (.inl (v6 + 1))] [] h4)))))) := (zx_unfold zblk xs 192 17 _ rfl _ _ _).trans rfl
theorem e_X_waysNamed_41 (xs : List Int) (p : Nat) (v1 : Option Nat) (v2 : Int) (v3 : Int) (v4 : Int) (v5 : Option Nat) (h : zH) : zx zblk xs 192 41 [some (.inr (.inr (some p))), some (.inr (.inr v1)), some (.inl v2), some (.inl v3), some (.inl v4), some (.inr (.inr v5))] [] h = (zck h v5 3 (zci (zx zblk xs 106 0 [some (.inr (.inr v5))] [] h) fun r2 h1 => (zcl (zx zblk xs 196 0 [some (.inr (.inl (zw v3))), none, some (.inl r2)] [] h1) fun r4 h3 => zx zblk xs 192 59 [some (.inr (.inr (some p))), some (.inr (.inr v1)), some (.inl v2), some (.inl v3), some (.inl v4), some (.inr (.inr v5)), some (.inr (.inl 0)), none, some (.inr (.inl r4)), none, some (.inl 0)] [] h3))) := (zx_unfold zblk xs 192 41 _ rfl _ _ _).trans rfl
theorem e_X_waysNamed_59 (xs : List Int) (p : Nat) (v1 : Option Nat) (v2 : Int) (v3 : Int) (v4 : Int) (v5 : Option Nat) (v6 : Int) (v8 : Int) (v10 : Int) (h : zH) : zx zblk xs 192 59 [some (.inr (.inr (some p))), some (.inr (.inr v1)), some (.inl v2), some (.inl v3), some (.inl v4), some (.inr (.inr v5)), some (.inr (.inl v6)), none, some (.inr (.inl v8)), none, some (.inl v10)] [] h = (if 0 ≤ zw (if zwl (zw v10) < zwl v8 then -1 else if zwl (zw v10) = zwl v8 then 0 else 1) then zx zblk xs 192 119 [none, none, none, none, none, none, some (.inr (.inl v6))] [] h else (zck h (some p) 6 (zcl (zx zblk xs 193 0 [some (.inr (.inr (some p))), some (.inr (.inr v5)), some (.inl v3), some (.inl v4)] [] h) fun r2 h1 => (if zw (if zwl r2 < zwl 0 then -1 else if zwl r2 = zwl 0 then 0 else 1) ≤ 0 then zx zblk xs 192 105 [some (.inr (.inr (some p))), some (.inr (.inr v1)), some (.inl v2), some (.inl v3), some (.inl v4), some (.inr (.inr v5)), some (.inr (.inl v6)), none, some (.inr (.inl v8)), none, some (.inl v10)] [] h1 else (zgr h1 (some p) 6 10 fun f3 => (zck h1 v1 0 (zci (zx zblk xs 92 0 [some (.inr (.inr v1)), some (.inr (.inr f3))] [] h1) fun r5 h4 => (if zw r5 ≠ zw v2 then zx zblk xs 192 105 [some (.inr (.inr (some p))), some (.inr (.inr v1)), some (.inl v2), some (.inl v3), some (.inl v4), some (.inr (.inr v5)), some (.inr (.inl v6)), none, some (.inr (.inl v8)), none, some (.inl v10)] [] h4 else zx zblk xs 192 105 [some (.inr (.inr (some p))), some (.inr (.inr v1)), some (.inl v2), some (.inl v3), some (.inl v4), some (.inr (.inr v5)), some (.inr (.inl (v6 + r2))), none, some (.inr (.inl v8)), none, some (.inl v10)] [] h4)))))))) := (zx_unfold zblk xs 192 59 _ rfl _ _ _).trans rfl
theorem e_X_waysNamed_105 (xs : List Int) (p : Nat) (v1 : Option Nat) (v2 : Int) (v3 : Int) (v4 : Int) (v5 : Option Nat) (v6 : Int) (v8 : Int) (v10 : Int) (h : zH) : zx zblk xs 192 105 [some (.inr (.inr (some p))), some (.inr (.inr v1)), some (.inl v2), some (.inl v3), some (.inl v4), some (.inr (.inr v5)), some (.inr (.inl v6)), none, some (.inr (.inl v8)), none, some (.inl v10)] [] h = (zgr h (some p) 6 10 fun f1 => (zck h f1 3 (zcv (zx zblk xs 119 0 [some (.inr (.inr f1)), some (.inl v3)] [] h) fun h2 => zx zblk xs 192 59 [some (.inr (.inr (some p))), some (.inr (.inr v1)), some (.inl v2), some (.inl v3), some (.inl v4), some (.inr (.inr v5)), some (.inr (.inl v6)), none, some (.inr (.inl v8)), none, some (.inl (v10 + 1))] [] h2))) := (zx_unfold zblk xs 192 105 _ rfl _ _ _).trans rfl
theorem e_X_waysNamed_119 (xs : List Int) (v6 : Int) (h : zH) : zx zblk xs 192 119 [none, none, none, none, none, none, some (.inr (.inl v6))] [] h = some (some (.inr (.inl v6)), h) := (zx_unfold zblk xs 192 119 _ rfl _ _ _).trans rfl
/-- MindReaders.waysHeard(LMindReaders$Row;II)J -/
noncomputable abbrev r_X_waysHeard (xs : List Int) (p : Nat) (v1 : Option Nat) (v2 : Int) (v3 : Int) (h : zH) : Option zR := zx zblk xs 193 0 [some (.inr (.inr (some p))), some (.inr (.inr v1)), some (.inl v2), some (.inl v3)] [] h
theorem e_X_waysHeard_0 (xs : List Int) (p : Nat) (v1 : Option Nat) (v2 : Int) (v3 : Int) (h : zH) : zx zblk xs 193 0 [some (.inr (.inr (some p))), some (.inr (.inr v1)), some (.inl v2), some (.inl v3)] [] h = zx zblk xs 193 6 [some (.inr (.inr (some p))), some (.inr (.inr v1)), some (.inl v2), some (.inl v3), some (.inr (.inl 1)), none, some (.inl 0)] [] h := (zx_unfold zblk xs 193 0 _ rfl _ _ _).trans rfl
theorem e_X_waysHeard_6 (xs : List Int) (p : Nat) (v1 : Option Nat) (v2 : Int) (v3 : Int) (v4 : Int) (v6 : Int) (h : zH) : zx zblk xs 193 6 [some (.inr (.inr (some p))), some (.inr (.inr v1)), some (.inl v2), some (.inl v3), some (.inr (.inl v4)), none, some (.inl v6)] [] h = (zck h v1 3 (zci (zx zblk xs 106 0 [some (.inr (.inr v1))] [] h) fun r2 h1 => (if zw r2 ≤ zw v6 then zx zblk xs 193 58 [none, none, none, none, some (.inr (.inl v4))] [] h1 else (zgr h1 (some p) 6 10 fun f3 => (zck h1 f3 3 (zci (zx zblk xs 107 0 [some (.inr (.inr f3)), some (.inl v6)] [] h1) fun r5 h4 => (zck h4 v1 3 (zci (zx zblk xs 107 0 [some (.inr (.inr v1)), some (.inl v6)] [] h4) fun r7 h6 => (if zw r5 ≠ zw r7 then zx zblk xs 193 47 [some (.inr (.inr (some p))), some (.inr (.inr v1)), some (.inl v2), some (.inl v3), none, none, some (.inl v6)] [.inr (.inl v4)] h6 else zx zblk xs 193 49 [some (.inr (.inr (some p))), some (.inr (.inr v1)), some (.inl v2), some (.inl v3), none, none, some (.inl v6)] [.inr (.inl (zw ((10 - v3) * (v2 - 1)))), .inr (.inl v4)] h6))))))))) := (zx_unfold zblk xs 193 6 _ rfl _ _ _).trans rfl
theorem e_X_waysHeard_47 (xs : List Int) (p : Nat) (v1 : Option Nat) (v2 : Int) (v3 : Int) (v6 : Int) (s0 : Int) (h : zH) : zx zblk xs 193 47 [some (.inr (.inr (some p))), some (.inr (.inr v1)), some (.inl v2), some (.inl v3), none, none, some (.inl v6)] [.inr (.inl s0)] h = zx zblk xs 193 49 [some (.inr (.inr (some p))), some (.inr (.inr v1)), some (.inl v2), some (.inl v3), none, none, some (.inl v6)] [.inr (.inl (zw v3)), .inr (.inl s0)] h := (zx_unfold zblk xs 193 47 _ rfl _ _ _).trans rfl
theorem e_X_waysHeard_49 (xs : List Int) (p : Nat) (v1 : Option Nat) (v2 : Int) (v3 : Int) (v6 : Int) (s0 : Int) (s1 : Int) (h : zH) : zx zblk xs 193 49 [some (.inr (.inr (some p))), some (.inr (.inr v1)), some (.inl v2), some (.inl v3), none, none, some (.inl v6)] [.inr (.inl s1), .inr (.inl s0)] h = zx zblk xs 193 6 [some (.inr (.inr (some p))), some (.inr (.inr v1)), some (.inl v2), some (.inl v3), some (.inr (.inl (s0 * s1))), none, some (.inl (v6 + 1))] [] h := (zx_unfold zblk xs 193 49 _ rfl _ _ _).trans rfl
theorem e_X_waysHeard_58 (xs : List Int) (v4 : Int) (h : zH) : zx zblk xs 193 58 [none, none, none, none, some (.inr (.inl v4))] [] h = some (some (.inr (.inl v4)), h) := (zx_unfold zblk xs 193 58 _ rfl _ _ _).trans rfl
/-- MindReaders.waysAllSeen(I)J -/
noncomputable abbrev r_X_waysAllSeen (xs : List Int) (p : Nat) (v1 : Int) (h : zH) : Option zR := zx zblk xs 194 0 [some (.inr (.inr (some p))), some (.inl v1)] [] h
theorem e_X_waysAllSeen_0 (xs : List Int) (p : Nat) (v1 : Int) (h : zH) : zx zblk xs 194 0 [some (.inr (.inr (some p))), some (.inl v1)] [] h = (zgr h (some p) 6 1 fun f1 => (zck h f1 3 (zci (zx zblk xs 106 0 [some (.inr (.inr f1))] [] h) fun r3 h2 => (if zw r3 ≤ zw v1 then zx zblk xs 194 15 [some (.inr (.inr (some p))), some (.inl v1), some (.inl r3)] [] h2 else some (some (.inr (.inl 0)), h2))))) := (zx_unfold zblk xs 194 0 _ rfl _ _ _).trans rfl
theorem e_X_waysAllSeen_15 (xs : List Int) (p : Nat) (v1 : Int) (v2 : Int) (h : zH) : zx zblk xs 194 15 [some (.inr (.inr (some p))), some (.inl v1), some (.inl v2)] [] h = zx zblk xs 194 20 [some (.inr (.inr (some p))), some (.inl v1), some (.inl v2), some (.inr (.inl 0)), none, some (.inl 0)] [] h := (zx_unfold zblk xs 194 15 _ rfl _ _ _).trans rfl
theorem e_X_waysAllSeen_20 (xs : List Int) (p : Nat) (v1 : Int) (v2 : Int) (v3 : Int) (v5 : Int) (h : zH) : zx zblk xs 194 20 [some (.inr (.inr (some p))), some (.inl v1), some (.inl v2), some (.inr (.inl v3)), none, some (.inl v5)] [] h = (if zw (zshl 1 v2) ≤ zw v5 then zx zblk xs 194 119 [none, none, none, some (.inr (.inl v3))] [] h else zx zblk xs 194 34 [some (.inr (.inr (some p))), some (.inl v1), some (.inl v2), some (.inr (.inl v3)), none, some (.inl v5), some (.inl 0), some (.inl 0)] [] h) := (zx_unfold zblk xs 194 20 _ rfl _ _ _).trans rfl
theorem e_X_waysAllSeen_34 (xs : List Int) (p : Nat) (v1 : Int) (v2 : Int) (v3 : Int) (v5 : Int) (v6 : Int) (v7 : Int) (h : zH) : zx zblk xs 194 34 [some (.inr (.inr (some p))), some (.inl v1), some (.inl v2), some (.inr (.inl v3)), none, some (.inl v5), some (.inl v6), some (.inl v7)] [] h = (if zw v2 ≤ zw v7 then zx zblk xs 194 68 [some (.inr (.inr (some p))), some (.inl v1), some (.inl v2), some (.inr (.inl v3)), none, some (.inl v5), some (.inl v6)] [] h else (zgr h (some p) 6 1 fun f1 => (zck h f1 3 (zci (zx zblk xs 107 0 [some (.inr (.inr f1)), some (.inl v7)] [] h) fun r3 h2 => zx zblk xs 194 34 [some (.inr (.inr (some p))), some (.inl v1), some (.inl v2), some (.inr (.inl v3)), none, some (.inl v5), some (.inl (v6 + ((zand (zshr v5 v7) 1) * r3))), some (.inl (v7 + 1))] [] h2)))) := (zx_unfold zblk xs 194 34 _ rfl _ _ _).trans rfl
theorem e_X_waysAllSeen_68 (xs : List Int) (p : Nat) (v1 : Int) (v2 : Int) (v3 : Int) (v5 : Int) (v6 : Int) (h : zH) : zx zblk xs 194 68 [some (.inr (.inr (some p))), some (.inl v1), some (.inl v2), some (.inr (.inl v3)), none, some (.inl v5), some (.inl v6)] [] h = (zci (zx zblk xs 199 0 [some (.inl v5)] [] h) fun r2 h1 => (if zw 2 = 0 then none else (if zw ((zw (v2 - r2)).tmod (zw 2)) ≠ 0 then zx zblk xs 194 84 [some (.inr (.inr (some p))), some (.inl v1), some (.inl v2), some (.inr (.inl v3)), none, some (.inl v5), some (.inl v6)] [] h1 else zx zblk xs 194 85 [some (.inr (.inr (some p))), some (.inl v1), some (.inl v2), some (.inr (.inl v3)), none, some (.inl v5), some (.inl v6)] [.inl 1] h1))) := (zx_unfold zblk xs 194 68 _ rfl _ _ _).trans rfl
theorem e_X_waysAllSeen_84 (xs : List Int) (p : Nat) (v1 : Int) (v2 : Int) (v3 : Int) (v5 : Int) (v6 : Int) (h : zH) : zx zblk xs 194 84 [some (.inr (.inr (some p))), some (.inl v1), some (.inl v2), some (.inr (.inl v3)), none, some (.inl v5), some (.inl v6)] [] h = zx zblk xs 194 85 [some (.inr (.inr (some p))), some (.inl v1), some (.inl v2), some (.inr (.inl v3)), none, some (.inl v5), some (.inl v6)] [.inl 0] h := (zx_unfold zblk xs 194 84 _ rfl _ _ _).trans rfl
theorem e_X_waysAllSeen_85 (xs : List Int) (p : Nat) (v1 : Int) (v2 : Int) (v3 : Int) (v5 : Int) (v6 : Int) (s0 : Int) (h : zH) : zx zblk xs 194 85 [some (.inr (.inr (some p))), some (.inl v1), some (.inl v2), some (.inr (.inl v3)), none, some (.inl v5), some (.inl v6)] [.inl s0] h = (if zw s0 = 0 then zx zblk xs 194 103 [some (.inr (.inr (some p))), some (.inl v1), some (.inl v2), none, none, some (.inl v5), some (.inl v6)] [.inr (.inl v3)] h else (zcl (zx zblk xs 196 0 [some (.inr (.inl (zw v6))), none, some (.inl v1)] [] h) fun r2 h1 => zx zblk xs 194 111 [some (.inr (.inr (some p))), some (.inl v1), some (.inl v2), none, none, some (.inl v5)] [.inr (.inl r2), .inr (.inl v3)] h1)) := (zx_unfold zblk xs 194 85 _ rfl _ _ _).trans rfl
theorem e_X_waysAllSeen_103 (xs : List Int) (p : Nat) (v1 : Int) (v2 : Int) (v5 : Int) (v6 : Int) (s0 : Int) (h : zH) : zx zblk xs 194 103 [some (.inr (.inr (some p))), some (.inl v1), some (.inl v2), none, none, some (.inl v5), some (.inl v6)] [.inr (.inl s0)] h = (zcl (zx zblk xs 196 0 [some (.inr (.inl (zw v6))), none, some (.inl v1)] [] h) fun r2 h1 => zx zblk xs 194 111 [some (.inr (.inr (some p))), some (.inl v1), some (.inl v2), none, none, some (.inl v5)] [.inr (.inl (-r2)), .inr (.inl s0)] h1) := (zx_unfold zblk xs 194 103 _ rfl _ _ _).trans rfl
theorem e_X_waysAllSeen_111 (xs : List Int) (p : Nat) (v1 : Int) (v2 : Int) (v5 : Int) (s0 : Int) (s1 : Int) (h : zH) : zx zblk xs 194 111 [some (.inr (.inr (some p))), some (.inl v1), some (.inl v2), none, none, some (.inl v5)] [.inr (.inl s1), .inr (.inl s0)] h = zx zblk xs 194 20 [some (.inr (.inr (some p))), some (.inl v1), some (.inl v2), some (.inr (.inl (s0 + s1))), none, some (.inl (v5 + 1))] [] h := (zx_unfold zblk xs 194 111 _ rfl _ _ _).trans rfl
theorem e_X_waysAllSeen_119 (xs : List Int) (v3 : Int) (h : zH) : zx zblk xs 194 119 [none, none, none, some (.inr (.inl v3))] [] h = some (some (.inr (.inl v3)), h) := (zx_unfold zblk xs 194 119 _ rfl _ _ _).trans rfl
/-- MindReaders.choices(II)J -/
noncomputable abbrev r_X_choices (xs : List Int) (v1 : Int) (v2 : Int) (h : zH) : Option zR := zx zblk xs 195 0 [some (.inl v1), some (.inl v2)] [] h
theorem e_X_choices_0 (xs : List Int) (v0 : Int) (v1 : Int) (h : zH) : zx zblk xs 195 0 [some (.inl v0), some (.inl v1)] [] h = zx zblk xs 195 5 [some (.inl v0), some (.inl v1), some (.inr (.inl 1)), none, some (.inl 1)] [] h := (zx_unfold zblk xs 195 0 _ rfl _ _ _).trans rfl
theorem e_X_choices_5 (xs : List Int) (v0 : Int) (v1 : Int) (v2 : Int) (v4 : Int) (h : zH) : zx zblk xs 195 5 [some (.inl v0), some (.inl v1), some (.inr (.inl v2)), none, some (.inl v4)] [] h = (if zw v1 < zw v4 then zx zblk xs 195 31 [none, none, some (.inr (.inl v2))] [] h else (if zwl (zw v4) = 0 then none else zx zblk xs 195 5 [some (.inl v0), some (.inl v1), some (.inr (.inl ((zwl (v2 * (zw ((v0 - v1) + v4)))).tdiv (zwl (zw v4))))), none, some (.inl (v4 + 1))] [] h)) := (zx_unfold zblk xs 195 5 _ rfl _ _ _).trans rfl
theorem e_X_choices_31 (xs : List Int) (v2 : Int) (h : zH) : zx zblk xs 195 31 [none, none, some (.inr (.inl v2))] [] h = some (some (.inr (.inl v2)), h) := (zx_unfold zblk xs 195 31 _ rfl _ _ _).trans rfl
/-- MindReaders.power(JI)J -/
noncomputable abbrev r_X_power (xs : List Int) (v1 : Int) (v2 : Int) (h : zH) : Option zR := zx zblk xs 196 0 [some (.inr (.inl v1)), none, some (.inl v2)] [] h
theorem e_X_power_0 (xs : List Int) (v0 : Int) (v2 : Int) (h : zH) : zx zblk xs 196 0 [some (.inr (.inl v0)), none, some (.inl v2)] [] h = zx zblk xs 196 5 [some (.inr (.inl v0)), none, some (.inl v2), some (.inr (.inl 1)), none, some (.inl 0)] [] h := (zx_unfold zblk xs 196 0 _ rfl _ _ _).trans rfl
theorem e_X_power_5 (xs : List Int) (v0 : Int) (v2 : Int) (v3 : Int) (v5 : Int) (h : zH) : zx zblk xs 196 5 [some (.inr (.inl v0)), none, some (.inl v2), some (.inr (.inl v3)), none, some (.inl v5)] [] h = (if zw v2 ≤ zw v5 then zx zblk xs 196 21 [none, none, none, some (.inr (.inl v3))] [] h else zx zblk xs 196 5 [some (.inr (.inl v0)), none, some (.inl v2), some (.inr (.inl (v3 * v0))), none, some (.inl (v5 + 1))] [] h) := (zx_unfold zblk xs 196 5 _ rfl _ _ _).trans rfl
theorem e_X_power_21 (xs : List Int) (v3 : Int) (h : zH) : zx zblk xs 196 21 [none, none, none, some (.inr (.inl v3))] [] h = some (some (.inr (.inl v3)), h) := (zx_unfold zblk xs 196 21 _ rfl _ _ _).trans rfl
/-- MindReaders.lowest(JJI)J -/
noncomputable abbrev r_X_lowest (xs : List Int) (v1 : Int) (v2 : Int) (v3 : Int) (h : zH) : Option zR := zx zblk xs 197 0 [some (.inr (.inl v1)), none, some (.inr (.inl v2)), none, some (.inl v3)] [] h
theorem e_X_lowest_0 (xs : List Int) (v0 : Int) (v2 : Int) (v4 : Int) (h : zH) : zx zblk xs 197 0 [some (.inr (.inl v0)), none, some (.inr (.inl v2)), none, some (.inl v4)] [] h = zx zblk xs 197 9 [some (.inr (.inl v0)), none, some (.inr (.inl v2)), none, some (.inl v4), some (.inr (.inl v0)), none, some (.inr (.inl v2)), none, some (.inl 0)] [] h := (zx_unfold zblk xs 197 0 _ rfl _ _ _).trans rfl
theorem e_X_lowest_9 (xs : List Int) (v0 : Int) (v2 : Int) (v4 : Int) (v5 : Int) (v7 : Int) (v9 : Int) (h : zH) : zx zblk xs 197 9 [some (.inr (.inl v0)), none, some (.inr (.inl v2)), none, some (.inl v4), some (.inr (.inl v5)), none, some (.inr (.inl v7)), none, some (.inl v9)] [] h = (if zw 128 ≤ zw v9 then zx zblk xs 197 45 [some (.inr (.inl v0)), none, some (.inr (.inl v2)), none, some (.inl v4), some (.inr (.inl v5))] [] h else (if zw (if zwl v7 < zwl 0 then -1 else if zwl v7 = zwl 0 then 0 else 1) = 0 then zx zblk xs 197 45 [some (.inr (.inl v0)), none, some (.inr (.inl v2)), none, some (.inl v4), some (.inr (.inl v5))] [] h else (if zwl v7 = 0 then none else zx zblk xs 197 9 [some (.inr (.inl v0)), none, some (.inr (.inl v2)), none, some (.inl v4), some (.inr (.inl v7)), none, some (.inr (.inl ((zwl v5).tmod (zwl v7)))), none, some (.inl (v9 + 1))] [] h))) := (zx_unfold zblk xs 197 9 _ rfl _ _ _).trans rfl
theorem e_X_lowest_45 (xs : List Int) (v0 : Int) (v2 : Int) (v4 : Int) (v5 : Int) (h : zH) : zx zblk xs 197 45 [some (.inr (.inl v0)), none, some (.inr (.inl v2)), none, some (.inl v4), some (.inr (.inl v5))] [] h = (if zw (if zwl v5 < zwl 0 then -1 else if zwl v5 = zwl 0 then 0 else 1) ≠ 0 then zx zblk xs 197 54 [some (.inr (.inl v0)), none, some (.inr (.inl v2)), none, some (.inl v4), some (.inr (.inl v5))] [] h else some (some (.inr (.inl 0)), h)) := (zx_unfold zblk xs 197 45 _ rfl _ _ _).trans rfl
theorem e_X_lowest_54 (xs : List Int) (v0 : Int) (v2 : Int) (v4 : Int) (v5 : Int) (h : zH) : zx zblk xs 197 54 [some (.inr (.inl v0)), none, some (.inr (.inl v2)), none, some (.inl v4), some (.inr (.inl v5))] [] h = (if zw v4 ≠ 0 then zx zblk xs 197 66 [none, none, some (.inr (.inl v2)), none, none, some (.inr (.inl v5))] [] h else (if zwl v5 = 0 then none else zx zblk xs 197 70 [] [.inr (.inl ((zwl v0).tdiv (zwl v5)))] h)) := (zx_unfold zblk xs 197 54 _ rfl _ _ _).trans rfl
theorem e_X_lowest_66 (xs : List Int) (v2 : Int) (v5 : Int) (h : zH) : zx zblk xs 197 66 [none, none, some (.inr (.inl v2)), none, none, some (.inr (.inl v5))] [] h = (if zwl v5 = 0 then none else zx zblk xs 197 70 [] [.inr (.inl ((zwl v2).tdiv (zwl v5)))] h) := (zx_unfold zblk xs 197 66 _ rfl _ _ _).trans rfl
theorem e_X_lowest_70 (xs : List Int) (s0 : Int) (h : zH) : zx zblk xs 197 70 [] [.inr (.inl s0)] h = some (some (.inr (.inl s0)), h) := (zx_unfold zblk xs 197 70 _ rfl _ _ _).trans rfl
/-- MindReaders.unlike(LMindReaders$Code;II)I -/
noncomputable abbrev r_X_unlike (xs : List Int) (p : Nat) (v1 : Option Nat) (v2 : Int) (v3 : Int) (h : zH) : Option zR := zx zblk xs 198 0 [some (.inr (.inr (some p))), some (.inr (.inr v1)), some (.inl v2), some (.inl v3)] [] h
theorem e_X_unlike_0 (xs : List Int) (p : Nat) (v1 : Option Nat) (v2 : Int) (v3 : Int) (h : zH) : zx zblk xs 198 0 [some (.inr (.inr (some p))), some (.inr (.inr v1)), some (.inl v2), some (.inl v3)] [] h = zx zblk xs 198 6 [some (.inr (.inr (some p))), some (.inr (.inr v1)), some (.inl v2), some (.inl v3), some (.inl 0), some (.inl 0)] [] h := (zx_unfold zblk xs 198 0 _ rfl _ _ _).trans rfl
theorem e_X_unlike_6 (xs : List Int) (p : Nat) (v1 : Option Nat) (v2 : Int) (v3 : Int) (v4 : Int) (v5 : Int) (h : zH) : zx zblk xs 198 6 [some (.inr (.inr (some p))), some (.inr (.inr v1)), some (.inl v2), some (.inl v3), some (.inl v4), some (.inl v5)] [] h = (zck h v1 0 (zci (zx zblk xs 83 0 [some (.inr (.inr v1))] [] h) fun r2 h1 => (if zw r2 ≤ zw v5 then zx zblk xs 198 113 [none, none, none, none, some (.inl v4)] [] h1 else (if zw v3 ≤ zw v4 then zx zblk xs 198 113 [none, none, none, none, some (.inl v4)] [] h1 else (zgr h1 (some p) 6 0 fun f3 => (zck h1 v1 0 (zcr (zx zblk xs 84 0 [some (.inr (.inr v1)), some (.inl v5)] [] h1) fun r5 h4 => (zgr h4 (some p) 6 12 fun f6 => (zck h4 f6 4 (zcr (zx zblk xs 121 0 [some (.inr (.inr f6)), some (.inl v5)] [] h4) fun r8 h7 => (zck h7 f3 5 (zcv (zx zblk xs 133 0 [some (.inr (.inr f3)), some (.inr (.inr r5)), some (.inl v2), some (.inr (.inr r8))] [] h7) fun h9 => zx zblk xs 198 50 [some (.inr (.inr (some p))), some (.inr (.inr v1)), some (.inl v2), some (.inl v3), some (.inl v4), some (.inl v5), some (.inl 1), some (.inl 0)] [] h9)))))))))))) := (zx_unfold zblk xs 198 6 _ rfl _ _ _).trans rfl
theorem e_X_unlike_50 (xs : List Int) (p : Nat) (v1 : Option Nat) (v2 : Int) (v3 : Int) (v4 : Int) (v5 : Int) (v6 : Int) (v7 : Int) (h : zH) : zx zblk xs 198 50 [some (.inr (.inr (some p))), some (.inr (.inr v1)), some (.inl v2), some (.inl v3), some (.inl v4), some (.inl v5), some (.inl v6), some (.inl v7)] [] h = (if zw v5 ≤ zw v7 then zx zblk xs 198 99 [some (.inr (.inr (some p))), some (.inr (.inr v1)), some (.inl v2), some (.inl v3), some (.inl v4), some (.inl v5), some (.inl v6)] [] h else (if zw v6 = 0 then zx zblk xs 198 99 [some (.inr (.inr (some p))), some (.inr (.inr v1)), some (.inl v2), some (.inl v3), some (.inl v4), some (.inl v5), some (.inl v6)] [] h else (zgr h (some p) 6 12 fun f1 => (zck h f1 4 (zcr (zx zblk xs 121 0 [some (.inr (.inr f1)), some (.inl v7)] [] h) fun r3 h2 => (zgr h2 (some p) 6 12 fun f4 => (zck h2 f4 4 (zcr (zx zblk xs 121 0 [some (.inr (.inr f4)), some (.inl v5)] [] h2) fun r6 h5 => (zck h5 r3 3 (zci (zx zblk xs 113 0 [some (.inr (.inr r3)), some (.inr (.inr r6))] [] h5) fun r8 h7 => (if zw r8 ≠ 0 then zx zblk xs 198 90 [some (.inr (.inr (some p))), some (.inr (.inr v1)), some (.inl v2), some (.inl v3), some (.inl v4), some (.inl v5), none, some (.inl v7)] [] h7 else zx zblk xs 198 91 [some (.inr (.inr (some p))), some (.inr (.inr v1)), some (.inl v2), some (.inl v3), some (.inl v4), some (.inl v5), none, some (.inl v7)] [.inl 1] h7))))))))))) := (zx_unfold zblk xs 198 50 _ rfl _ _ _).trans rfl
theorem e_X_unlike_90 (xs : List Int) (p : Nat) (v1 : Option Nat) (v2 : Int) (v3 : Int) (v4 : Int) (v5 : Int) (v7 : Int) (h : zH) : zx zblk xs 198 90 [some (.inr (.inr (some p))), some (.inr (.inr v1)), some (.inl v2), some (.inl v3), some (.inl v4), some (.inl v5), none, some (.inl v7)] [] h = zx zblk xs 198 91 [some (.inr (.inr (some p))), some (.inr (.inr v1)), some (.inl v2), some (.inl v3), some (.inl v4), some (.inl v5), none, some (.inl v7)] [.inl 0] h := (zx_unfold zblk xs 198 90 _ rfl _ _ _).trans rfl
theorem e_X_unlike_91 (xs : List Int) (p : Nat) (v1 : Option Nat) (v2 : Int) (v3 : Int) (v4 : Int) (v5 : Int) (v7 : Int) (s0 : Int) (h : zH) : zx zblk xs 198 91 [some (.inr (.inr (some p))), some (.inr (.inr v1)), some (.inl v2), some (.inl v3), some (.inl v4), some (.inl v5), none, some (.inl v7)] [.inl s0] h = zx zblk xs 198 50 [some (.inr (.inr (some p))), some (.inr (.inr v1)), some (.inl v2), some (.inl v3), some (.inl v4), some (.inl v5), some (.inl s0), some (.inl (v7 + 1))] [] h := (zx_unfold zblk xs 198 91 _ rfl _ _ _).trans rfl
theorem e_X_unlike_99 (xs : List Int) (p : Nat) (v1 : Option Nat) (v2 : Int) (v3 : Int) (v4 : Int) (v5 : Int) (v6 : Int) (h : zH) : zx zblk xs 198 99 [some (.inr (.inr (some p))), some (.inr (.inr v1)), some (.inl v2), some (.inl v3), some (.inl v4), some (.inl v5), some (.inl v6)] [] h = (if zw v6 = 0 then zx zblk xs 198 107 [some (.inr (.inr (some p))), some (.inr (.inr v1)), some (.inl v2), some (.inl v3), some (.inl v4), some (.inl v5)] [] h else zx zblk xs 198 107 [some (.inr (.inr (some p))), some (.inr (.inr v1)), some (.inl v2), some (.inl v3), some (.inl (v4 + 1)), some (.inl v5)] [] h) := (zx_unfold zblk xs 198 99 _ rfl _ _ _).trans rfl
theorem e_X_unlike_107 (xs : List Int) (p : Nat) (v1 : Option Nat) (v2 : Int) (v3 : Int) (v4 : Int) (v5 : Int) (h : zH) : zx zblk xs 198 107 [some (.inr (.inr (some p))), some (.inr (.inr v1)), some (.inl v2), some (.inl v3), some (.inl v4), some (.inl v5)] [] h = zx zblk xs 198 6 [some (.inr (.inr (some p))), some (.inr (.inr v1)), some (.inl v2), some (.inl v3), some (.inl v4), some (.inl (v5 + 1))] [] h := (zx_unfold zblk xs 198 107 _ rfl _ _ _).trans rfl
theorem e_X_unlike_113 (xs : List Int) (v4 : Int) (h : zH) : zx zblk xs 198 113 [none, none, none, none, some (.inl v4)] [] h = some (some (.inl v4), h) := (zx_unfold zblk xs 198 113 _ rfl _ _ _).trans rfl
end
section
/-! ===== what each block of code does (printed by a program of mine; each by rfl) ===== -/
/-- MindReadersLaw.law([I)Z -/
theorem e_L_law_18 (xs : List Int) (v0 : Option Nat) (v1 : Option Nat) (v2 : Option Nat) (v3 : Int) (h : zH) : zx zblk xs 0 18 [some (.inr (.inr v0)), some (.inr (.inr v1)), some (.inr (.inr v2)), some (.inl v3)] [] h = (zln xs h v0 fun n1 => (if zw (n1 - 6) < zw v3 then zx zblk xs 0 1193 [] [] h else (zai xs h v0 v3 fun a2 => (if zw (zand a2 63) < 0 ∨ 34 < zw (zand a2 63) then zx zblk xs 0 1187 [some (.inr (.inr v0)), some (.inr (.inr v1)), some (.inr (.inr v2)), some (.inl v3)] [] h else zsel ([188, 241, 254, 267, 280, 333, 366, 399, 422, 455, 498, 521, 554, 587, 610, 643, 666, 699, 732, 755, 778, 842, 865, 878, 891, 924, 958, 991, 1014, 1068, 1101, 1124, 1137, 1150, 1173][(zw (zand a2 63) - 0).toNat]?) fun t => zx zblk xs 0 t [some (.inr (.inr v0)), some (.inr (.inr v1)), some (.inr (.inr v2)), some (.inl v3)] [] h)))) := (zx_unfold zblk xs 0 18 _ rfl _ _ _).trans rfl
theorem e_L_law_188 (xs : List Int) (v0 : Option Nat) (v1 : Option Nat) (v2 : Option Nat) (v3 : Int) (h : zH) : zx zblk xs 0 188 [some (.inr (.inr v0)), some (.inr (.inr v1)), some (.inr (.inr v2)), some (.inl v3)] [] h = (zai xs h v0 (v3 + 1) fun a1 => (zai xs h v0 (v3 + 2) fun a2 => (zck h v1 6 (zci (zx zblk xs 135 0 [some (.inr (.inr v1)), some (.inr (.inl (zorl (zshll (zw a1) 32) (zandl (zw a2) 4294967295)))), none] [] h) fun r4 h3 => (zai xs h3 v0 (v3 + 1) fun a5 => (zai xs h3 v0 (v3 + 2) fun a6 => (zck h3 v2 7 (zci (zx zblk xs 3 0 [some (.inr (.inr v2)), some (.inr (.inl (zorl (zshll (zw a5) 32) (zandl (zw a6) 4294967295)))), none] [] h3) fun r8 h7 => (if zw r4 = zw r8 then zx zblk xs 0 1187 [some (.inr (.inr v0)), some (.inr (.inr v1)), some (.inr (.inr v2)), some (.inl v3)] [] h7 else (if 0 = 0 ∨ 0 = 1 then some (some (.inl 0), h7) else none)))))))))) := (zx_unfold zblk xs 0 188 _ rfl _ _ _).trans rfl
theorem e_L_law_241 (xs : List Int) (v0 : Option Nat) (v1 : Option Nat) (v2 : Option Nat) (v3 : Int) (h : zH) : zx zblk xs 0 241 [some (.inr (.inr v0)), some (.inr (.inr v1)), some (.inr (.inr v2)), some (.inl v3)] [] h = (zck h v1 6 (zci (zx zblk xs 136 0 [some (.inr (.inr v1))] [] h) fun r2 h1 => (zck h1 v2 7 (zci (zx zblk xs 4 0 [some (.inr (.inr v2))] [] h1) fun r4 h3 => (if zw r2 = zw r4 then zx zblk xs 0 1187 [some (.inr (.inr v0)), some (.inr (.inr v1)), some (.inr (.inr v2)), some (.inl v3)] [] h3 else (if 0 = 0 ∨ 0 = 1 then some (some (.inl 0), h3) else none)))))) := (zx_unfold zblk xs 0 241 _ rfl _ _ _).trans rfl
theorem e_L_law_254 (xs : List Int) (v0 : Option Nat) (v1 : Option Nat) (v2 : Option Nat) (v3 : Int) (h : zH) : zx zblk xs 0 254 [some (.inr (.inr v0)), some (.inr (.inr v1)), some (.inr (.inr v2)), some (.inl v3)] [] h = (zck h v1 6 (zci (zx zblk xs 137 0 [some (.inr (.inr v1))] [] h) fun r2 h1 => (zck h1 v2 7 (zci (zx zblk xs 7 0 [some (.inr (.inr v2))] [] h1) fun r4 h3 => (if zw r2 = zw r4 then zx zblk xs 0 1187 [some (.inr (.inr v0)), some (.inr (.inr v1)), some (.inr (.inr v2)), some (.inl v3)] [] h3 else (if 0 = 0 ∨ 0 = 1 then some (some (.inl 0), h3) else none)))))) := (zx_unfold zblk xs 0 254 _ rfl _ _ _).trans rfl
theorem e_L_law_267 (xs : List Int) (v0 : Option Nat) (v1 : Option Nat) (v2 : Option Nat) (v3 : Int) (h : zH) : zx zblk xs 0 267 [some (.inr (.inr v0)), some (.inr (.inr v1)), some (.inr (.inr v2)), some (.inl v3)] [] h = (zck h v1 6 (zci (zx zblk xs 138 0 [some (.inr (.inr v1))] [] h) fun r2 h1 => (zck h1 v2 7 (zci (zx zblk xs 8 0 [some (.inr (.inr v2))] [] h1) fun r4 h3 => (if zw r2 = zw r4 then zx zblk xs 0 1187 [some (.inr (.inr v0)), some (.inr (.inr v1)), some (.inr (.inr v2)), some (.inl v3)] [] h3 else (if 0 = 0 ∨ 0 = 1 then some (some (.inl 0), h3) else none)))))) := (zx_unfold zblk xs 0 267 _ rfl _ _ _).trans rfl
theorem e_L_law_280 (xs : List Int) (v0 : Option Nat) (v1 : Option Nat) (v2 : Option Nat) (v3 : Int) (h : zH) : zx zblk xs 0 280 [some (.inr (.inr v0)), some (.inr (.inr v1)), some (.inr (.inr v2)), some (.inl v3)] [] h = (zai xs h v0 (v3 + 1) fun a1 => (zai xs h v0 (v3 + 2) fun a2 => (zai xs h v0 (v3 + 3) fun a3 => (zai xs h v0 (v3 + 4) fun a4 => (zck h v1 6 (zci (zx zblk xs 139 0 [some (.inr (.inr v1)), some (.inl a1), some (.inl a2), some (.inl a3), some (.inl a4)] [] h) fun r6 h5 => (zai xs h5 v0 (v3 + 1) fun a7 => (zai xs h5 v0 (v3 + 2) fun a8 => (zai xs h5 v0 (v3 + 3) fun a9 => (zai xs h5 v0 (v3 + 4) fun a10 => (zck h5 v2 7 (zci (zx zblk xs 10 0 [some (.inr (.inr v2)), some (.inl a7), some (.inl a8), some (.inl a9), some (.inl a10)] [] h5) fun r12 h11 => (if zw r6 = zw r12 then zx zblk xs 0 1187 [some (.inr (.inr v0)), some (.inr (.inr v1)), some (.inr (.inr v2)), some (.inl v3)] [] h11 else (if 0 = 0 ∨ 0 = 1 then some (some (.inl 0), h11) else none)))))))))))))) := (zx_unfold zblk xs 0 280 _ rfl _ _ _).trans rfl
theorem e_L_law_333 (xs : List Int) (v0 : Option Nat) (v1 : Option Nat) (v2 : Option Nat) (v3 : Int) (h : zH) : zx zblk xs 0 333 [some (.inr (.inr v0)), some (.inr (.inr v1)), some (.inr (.inr v2)), some (.inl v3)] [] h = (zai xs h v0 (v3 + 1) fun a1 => (zai xs h v0 (v3 + 2) fun a2 => (zck h v1 6 (zci (zx zblk xs 140 0 [some (.inr (.inr v1)), some (.inl a1), some (.inl a2)] [] h) fun r4 h3 => (zai xs h3 v0 (v3 + 1) fun a5 => (zai xs h3 v0 (v3 + 2) fun a6 => (zck h3 v2 7 (zci (zx zblk xs 12 0 [some (.inr (.inr v2)), some (.inl a5), some (.inl a6)] [] h3) fun r8 h7 => (if zw r4 = zw r8 then zx zblk xs 0 1187 [some (.inr (.inr v0)), some (.inr (.inr v1)), some (.inr (.inr v2)), some (.inl v3)] [] h7 else (if 0 = 0 ∨ 0 = 1 then some (some (.inl 0), h7) else none)))))))))) := (zx_unfold zblk xs 0 333 _ rfl _ _ _).trans rfl
theorem e_L_law_366 (xs : List Int) (v0 : Option Nat) (v1 : Option Nat) (v2 : Option Nat) (v3 : Int) (h : zH) : zx zblk xs 0 366 [some (.inr (.inr v0)), some (.inr (.inr v1)), some (.inr (.inr v2)), some (.inl v3)] [] h = (zai xs h v0 (v3 + 1) fun a1 => (zai xs h v0 (v3 + 2) fun a2 => (zck h v1 6 (zci (zx zblk xs 141 0 [some (.inr (.inr v1)), some (.inl a1), some (.inl a2)] [] h) fun r4 h3 => (zai xs h3 v0 (v3 + 1) fun a5 => (zai xs h3 v0 (v3 + 2) fun a6 => (zck h3 v2 7 (zci (zx zblk xs 13 0 [some (.inr (.inr v2)), some (.inl a5), some (.inl a6)] [] h3) fun r8 h7 => (if zw r4 = zw r8 then zx zblk xs 0 1187 [some (.inr (.inr v0)), some (.inr (.inr v1)), some (.inr (.inr v2)), some (.inl v3)] [] h7 else (if 0 = 0 ∨ 0 = 1 then some (some (.inl 0), h7) else none)))))))))) := (zx_unfold zblk xs 0 366 _ rfl _ _ _).trans rfl
theorem e_L_law_399 (xs : List Int) (v0 : Option Nat) (v1 : Option Nat) (v2 : Option Nat) (v3 : Int) (h : zH) : zx zblk xs 0 399 [some (.inr (.inr v0)), some (.inr (.inr v1)), some (.inr (.inr v2)), some (.inl v3)] [] h = (zai xs h v0 (v3 + 1) fun a1 => (zck h v1 6 (zci (zx zblk xs 142 0 [some (.inr (.inr v1)), some (.inl a1)] [] h) fun r3 h2 => (zai xs h2 v0 (v3 + 1) fun a4 => (zck h2 v2 7 (zci (zx zblk xs 14 0 [some (.inr (.inr v2)), some (.inl a4)] [] h2) fun r6 h5 => (if zw r3 = zw r6 then zx zblk xs 0 1187 [some (.inr (.inr v0)), some (.inr (.inr v1)), some (.inr (.inr v2)), some (.inl v3)] [] h5 else (if 0 = 0 ∨ 0 = 1 then some (some (.inl 0), h5) else none)))))))) := (zx_unfold zblk xs 0 399 _ rfl _ _ _).trans rfl
theorem e_L_law_422 (xs : List Int) (v0 : Option Nat) (v1 : Option Nat) (v2 : Option Nat) (v3 : Int) (h : zH) : zx zblk xs 0 422 [some (.inr (.inr v0)), some (.inr (.inr v1)), some (.inr (.inr v2)), some (.inl v3)] [] h = (zai xs h v0 (v3 + 1) fun a1 => (zai xs h v0 (v3 + 2) fun a2 => (zck h v1 6 (zci (zx zblk xs 143 0 [some (.inr (.inr v1)), some (.inl a1), some (.inl a2)] [] h) fun r4 h3 => (zai xs h3 v0 (v3 + 1) fun a5 => (zai xs h3 v0 (v3 + 2) fun a6 => (zck h3 v2 7 (zci (zx zblk xs 16 0 [some (.inr (.inr v2)), some (.inl a5), some (.inl a6)] [] h3) fun r8 h7 => (if zw r4 = zw r8 then zx zblk xs 0 1187 [some (.inr (.inr v0)), some (.inr (.inr v1)), some (.inr (.inr v2)), some (.inl v3)] [] h7 else (if 0 = 0 ∨ 0 = 1 then some (some (.inl 0), h7) else none)))))))))) := (zx_unfold zblk xs 0 422 _ rfl _ _ _).trans rfl
theorem e_L_law_455 (xs : List Int) (v0 : Option Nat) (v1 : Option Nat) (v2 : Option Nat) (v3 : Int) (h : zH) : zx zblk xs 0 455 [some (.inr (.inr v0)), some (.inr (.inr v1)), some (.inr (.inr v2)), some (.inl v3)] [] h = (zai xs h v0 (v3 + 1) fun a1 => (zai xs h v0 (v3 + 2) fun a2 => (zai xs h v0 (v3 + 3) fun a3 => (zck h v1 6 (zci (zx zblk xs 144 0 [some (.inr (.inr v1)), some (.inl a1), some (.inl a2), some (.inl a3)] [] h) fun r5 h4 => (zai xs h4 v0 (v3 + 1) fun a6 => (zai xs h4 v0 (v3 + 2) fun a7 => (zai xs h4 v0 (v3 + 3) fun a8 => (zck h4 v2 7 (zci (zx zblk xs 25 0 [some (.inr (.inr v2)), some (.inl a6), some (.inl a7), some (.inl a8)] [] h4) fun r10 h9 => (if zw r5 = zw r10 then zx zblk xs 0 1187 [some (.inr (.inr v0)), some (.inr (.inr v1)), some (.inr (.inr v2)), some (.inl v3)] [] h9 else (if 0 = 0 ∨ 0 = 1 then some (some (.inl 0), h9) else none)))))))))))) := (zx_unfold zblk xs 0 455 _ rfl _ _ _).trans rfl
theorem e_L_law_498 (xs : List Int) (v0 : Option Nat) (v1 : Option Nat) (v2 : Option Nat) (v3 : Int) (h : zH) : zx zblk xs 0 498 [some (.inr (.inr v0)), some (.inr (.inr v1)), some (.inr (.inr v2)), some (.inl v3)] [] h = (zai xs h v0 (v3 + 1) fun a1 => (zck h v1 6 (zci (zx zblk xs 145 0 [some (.inr (.inr v1)), some (.inl a1)] [] h) fun r3 h2 => (zai xs h2 v0 (v3 + 1) fun a4 => (zck h2 v2 7 (zci (zx zblk xs 31 0 [some (.inr (.inr v2)), some (.inl a4)] [] h2) fun r6 h5 => (if zw r3 = zw r6 then zx zblk xs 0 1187 [some (.inr (.inr v0)), some (.inr (.inr v1)), some (.inr (.inr v2)), some (.inl v3)] [] h5 else (if 0 = 0 ∨ 0 = 1 then some (some (.inl 0), h5) else none)))))))) := (zx_unfold zblk xs 0 498 _ rfl _ _ _).trans rfl
theorem e_L_law_521 (xs : List Int) (v0 : Option Nat) (v1 : Option Nat) (v2 : Option Nat) (v3 : Int) (h : zH) : zx zblk xs 0 521 [some (.inr (.inr v0)), some (.inr (.inr v1)), some (.inr (.inr v2)), some (.inl v3)] [] h = (zai xs h v0 (v3 + 1) fun a1 => (zai xs h v0 (v3 + 2) fun a2 => (zck h v1 6 (zci (zx zblk xs 146 0 [some (.inr (.inr v1)), some (.inl a1), some (.inl a2)] [] h) fun r4 h3 => (zai xs h3 v0 (v3 + 1) fun a5 => (zai xs h3 v0 (v3 + 2) fun a6 => (zck h3 v2 7 (zci (zx zblk xs 33 0 [some (.inr (.inr v2)), some (.inl a5), some (.inl a6)] [] h3) fun r8 h7 => (if zw r4 = zw r8 then zx zblk xs 0 1187 [some (.inr (.inr v0)), some (.inr (.inr v1)), some (.inr (.inr v2)), some (.inl v3)] [] h7 else (if 0 = 0 ∨ 0 = 1 then some (some (.inl 0), h7) else none)))))))))) := (zx_unfold zblk xs 0 521 _ rfl _ _ _).trans rfl
theorem e_L_law_554 (xs : List Int) (v0 : Option Nat) (v1 : Option Nat) (v2 : Option Nat) (v3 : Int) (h : zH) : zx zblk xs 0 554 [some (.inr (.inr v0)), some (.inr (.inr v1)), some (.inr (.inr v2)), some (.inl v3)] [] h = (zai xs h v0 (v3 + 1) fun a1 => (zai xs h v0 (v3 + 2) fun a2 => (zck h v1 6 (zci (zx zblk xs 147 0 [some (.inr (.inr v1)), some (.inl a1), some (.inl a2)] [] h) fun r4 h3 => (zai xs h3 v0 (v3 + 1) fun a5 => (zai xs h3 v0 (v3 + 2) fun a6 => (zck h3 v2 7 (zci (zx zblk xs 34 0 [some (.inr (.inr v2)), some (.inl a5), some (.inl a6)] [] h3) fun r8 h7 => (if zw r4 = zw r8 then zx zblk xs 0 1187 [some (.inr (.inr v0)), some (.inr (.inr v1)), some (.inr (.inr v2)), some (.inl v3)] [] h7 else (if 0 = 0 ∨ 0 = 1 then some (some (.inl 0), h7) else none)))))))))) := (zx_unfold zblk xs 0 554 _ rfl _ _ _).trans rfl
theorem e_L_law_587 (xs : List Int) (v0 : Option Nat) (v1 : Option Nat) (v2 : Option Nat) (v3 : Int) (h : zH) : zx zblk xs 0 587 [some (.inr (.inr v0)), some (.inr (.inr v1)), some (.inr (.inr v2)), some (.inl v3)] [] h = (zai xs h v0 (v3 + 1) fun a1 => (zck h v1 6 (zci (zx zblk xs 148 0 [some (.inr (.inr v1)), some (.inl a1)] [] h) fun r3 h2 => (zai xs h2 v0 (v3 + 1) fun a4 => (zck h2 v2 7 (zci (zx zblk xs 39 0 [some (.inr (.inr v2)), some (.inl a4)] [] h2) fun r6 h5 => (if zw r3 = zw r6 then zx zblk xs 0 1187 [some (.inr (.inr v0)), some (.inr (.inr v1)), some (.inr (.inr v2)), some (.inl v3)] [] h5 else (if 0 = 0 ∨ 0 = 1 then some (some (.inl 0), h5) else none)))))))) := (zx_unfold zblk xs 0 587 _ rfl _ _ _).trans rfl
theorem e_L_law_610 (xs : List Int) (v0 : Option Nat) (v1 : Option Nat) (v2 : Option Nat) (v3 : Int) (h : zH) : zx zblk xs 0 610 [some (.inr (.inr v0)), some (.inr (.inr v1)), some (.inr (.inr v2)), some (.inl v3)] [] h = (zai xs h v0 (v3 + 1) fun a1 => (zai xs h v0 (v3 + 2) fun a2 => (zck h v1 6 (zci (zx zblk xs 149 0 [some (.inr (.inr v1)), some (.inl a1), some (.inl a2)] [] h) fun r4 h3 => (zai xs h3 v0 (v3 + 1) fun a5 => (zai xs h3 v0 (v3 + 2) fun a6 => (zck h3 v2 7 (zci (zx zblk xs 45 0 [some (.inr (.inr v2)), some (.inl a5), some (.inl a6)] [] h3) fun r8 h7 => (if zw r4 = zw r8 then zx zblk xs 0 1187 [some (.inr (.inr v0)), some (.inr (.inr v1)), some (.inr (.inr v2)), some (.inl v3)] [] h7 else (if 0 = 0 ∨ 0 = 1 then some (some (.inl 0), h7) else none)))))))))) := (zx_unfold zblk xs 0 610 _ rfl _ _ _).trans rfl
theorem e_L_law_643 (xs : List Int) (v0 : Option Nat) (v1 : Option Nat) (v2 : Option Nat) (v3 : Int) (h : zH) : zx zblk xs 0 643 [some (.inr (.inr v0)), some (.inr (.inr v1)), some (.inr (.inr v2)), some (.inl v3)] [] h = (zai xs h v0 (v3 + 1) fun a1 => (zck h v1 6 (zci (zx zblk xs 150 0 [some (.inr (.inr v1)), some (.inl a1)] [] h) fun r3 h2 => (zai xs h2 v0 (v3 + 1) fun a4 => (zck h2 v2 7 (zci (zx zblk xs 47 0 [some (.inr (.inr v2)), some (.inl a4)] [] h2) fun r6 h5 => (if zw r3 = zw r6 then zx zblk xs 0 1187 [some (.inr (.inr v0)), some (.inr (.inr v1)), some (.inr (.inr v2)), some (.inl v3)] [] h5 else (if 0 = 0 ∨ 0 = 1 then some (some (.inl 0), h5) else none)))))))) := (zx_unfold zblk xs 0 643 _ rfl _ _ _).trans rfl
theorem e_L_law_666 (xs : List Int) (v0 : Option Nat) (v1 : Option Nat) (v2 : Option Nat) (v3 : Int) (h : zH) : zx zblk xs 0 666 [some (.inr (.inr v0)), some (.inr (.inr v1)), some (.inr (.inr v2)), some (.inl v3)] [] h = (zai xs h v0 (v3 + 1) fun a1 => (zai xs h v0 (v3 + 2) fun a2 => (zck h v1 6 (zci (zx zblk xs 151 0 [some (.inr (.inr v1)), some (.inl a1), some (.inl a2)] [] h) fun r4 h3 => (zai xs h3 v0 (v3 + 1) fun a5 => (zai xs h3 v0 (v3 + 2) fun a6 => (zck h3 v2 7 (zci (zx zblk xs 50 0 [some (.inr (.inr v2)), some (.inl a5), some (.inl a6)] [] h3) fun r8 h7 => (if zw r4 = zw r8 then zx zblk xs 0 1187 [some (.inr (.inr v0)), some (.inr (.inr v1)), some (.inr (.inr v2)), some (.inl v3)] [] h7 else (if 0 = 0 ∨ 0 = 1 then some (some (.inl 0), h7) else none)))))))))) := (zx_unfold zblk xs 0 666 _ rfl _ _ _).trans rfl
theorem e_L_law_699 (xs : List Int) (v0 : Option Nat) (v1 : Option Nat) (v2 : Option Nat) (v3 : Int) (h : zH) : zx zblk xs 0 699 [some (.inr (.inr v0)), some (.inr (.inr v1)), some (.inr (.inr v2)), some (.inl v3)] [] h = (zai xs h v0 (v3 + 1) fun a1 => (zai xs h v0 (v3 + 2) fun a2 => (zck h v1 6 (zci (zx zblk xs 152 0 [some (.inr (.inr v1)), some (.inl a1), some (.inl a2)] [] h) fun r4 h3 => (zai xs h3 v0 (v3 + 1) fun a5 => (zai xs h3 v0 (v3 + 2) fun a6 => (zck h3 v2 7 (zci (zx zblk xs 53 0 [some (.inr (.inr v2)), some (.inl a5), some (.inl a6)] [] h3) fun r8 h7 => (if zw r4 = zw r8 then zx zblk xs 0 1187 [some (.inr (.inr v0)), some (.inr (.inr v1)), some (.inr (.inr v2)), some (.inl v3)] [] h7 else (if 0 = 0 ∨ 0 = 1 then some (some (.inl 0), h7) else none)))))))))) := (zx_unfold zblk xs 0 699 _ rfl _ _ _).trans rfl
theorem e_L_law_732 (xs : List Int) (v0 : Option Nat) (v1 : Option Nat) (v2 : Option Nat) (v3 : Int) (h : zH) : zx zblk xs 0 732 [some (.inr (.inr v0)), some (.inr (.inr v1)), some (.inr (.inr v2)), some (.inl v3)] [] h = (zai xs h v0 (v3 + 1) fun a1 => (zck h v1 6 (zci (zx zblk xs 153 0 [some (.inr (.inr v1)), some (.inl a1)] [] h) fun r3 h2 => (zai xs h2 v0 (v3 + 1) fun a4 => (zck h2 v2 7 (zci (zx zblk xs 55 0 [some (.inr (.inr v2)), some (.inl a4)] [] h2) fun r6 h5 => (if zw r3 = zw r6 then zx zblk xs 0 1187 [some (.inr (.inr v0)), some (.inr (.inr v1)), some (.inr (.inr v2)), some (.inl v3)] [] h5 else (if 0 = 0 ∨ 0 = 1 then some (some (.inl 0), h5) else none)))))))) := (zx_unfold zblk xs 0 732 _ rfl _ _ _).trans rfl
theorem e_L_law_755 (xs : List Int) (v0 : Option Nat) (v1 : Option Nat) (v2 : Option Nat) (v3 : Int) (h : zH) : zx zblk xs 0 755 [some (.inr (.inr v0)), some (.inr (.inr v1)), some (.inr (.inr v2)), some (.inl v3)] [] h = (zai xs h v0 (v3 + 1) fun a1 => (zck h v1 6 (zci (zx zblk xs 154 0 [some (.inr (.inr v1)), some (.inl a1)] [] h) fun r3 h2 => (zai xs h2 v0 (v3 + 1) fun a4 => (zck h2 v2 7 (zci (zx zblk xs 56 0 [some (.inr (.inr v2)), some (.inl a4)] [] h2) fun r6 h5 => (if zw r3 = zw r6 then zx zblk xs 0 1187 [some (.inr (.inr v0)), some (.inr (.inr v1)), some (.inr (.inr v2)), some (.inl v3)] [] h5 else (if 0 = 0 ∨ 0 = 1 then some (some (.inl 0), h5) else none)))))))) := (zx_unfold zblk xs 0 755 _ rfl _ _ _).trans rfl
theorem e_L_law_778 (xs : List Int) (v0 : Option Nat) (v1 : Option Nat) (v2 : Option Nat) (v3 : Int) (h : zH) : zx zblk xs 0 778 [some (.inr (.inr v0)), some (.inr (.inr v1)), some (.inr (.inr v2)), some (.inl v3)] [] h = (zai xs h v0 (v3 + 1) fun a1 => (zai xs h v0 (v3 + 2) fun a2 => (zai xs h v0 (v3 + 3) fun a3 => (zai xs h v0 (v3 + 4) fun a4 => (zai xs h v0 (v3 + 5) fun a5 => (zck h v1 6 (zcl (zx zblk xs 155 0 [some (.inr (.inr v1)), some (.inl a1), some (.inl a2), some (.inl a3), some (.inl a4), some (.inl a5)] [] h) fun r7 h6 => (zai xs h6 v0 (v3 + 1) fun a8 => (zai xs h6 v0 (v3 + 2) fun a9 => (zai xs h6 v0 (v3 + 3) fun a10 => (zai xs h6 v0 (v3 + 4) fun a11 => (zai xs h6 v0 (v3 + 5) fun a12 => (zck h6 v2 7 (zcl (zx zblk xs 58 0 [some (.inr (.inr v2)), some (.inl a8), some (.inl a9), some (.inl a10), some (.inl a11), some (.inl a12)] [] h6) fun r14 h13 => (if zw (if zwl r7 < zwl r14 then -1 else if zwl r7 = zwl r14 then 0 else 1) = 0 then zx zblk xs 0 1187 [some (.inr (.inr v0)), some (.inr (.inr v1)), some (.inr (.inr v2)), some (.inl v3)] [] h13 else (if 0 = 0 ∨ 0 = 1 then some (some (.inl 0), h13) else none)))))))))))))))) := (zx_unfold zblk xs 0 778 _ rfl _ _ _).trans rfl
theorem e_L_law_842 (xs : List Int) (v0 : Option Nat) (v1 : Option Nat) (v2 : Option Nat) (v3 : Int) (h : zH) : zx zblk xs 0 842 [some (.inr (.inr v0)), some (.inr (.inr v1)), some (.inr (.inr v2)), some (.inl v3)] [] h = (zai xs h v0 (v3 + 1) fun a1 => (zck h v1 6 (zci (zx zblk xs 156 0 [some (.inr (.inr v1)), some (.inl a1)] [] h) fun r3 h2 => (zai xs h2 v0 (v3 + 1) fun a4 => (zck h2 v2 7 (zci (zx zblk xs 59 0 [some (.inr (.inr v2)), some (.inl a4)] [] h2) fun r6 h5 => (if zw r3 = zw r6 then zx zblk xs 0 1187 [some (.inr (.inr v0)), some (.inr (.inr v1)), some (.inr (.inr v2)), some (.inl v3)] [] h5 else (if 0 = 0 ∨ 0 = 1 then some (some (.inl 0), h5) else none)))))))) := (zx_unfold zblk xs 0 842 _ rfl _ _ _).trans rfl
theorem e_L_law_865 (xs : List Int) (v0 : Option Nat) (v1 : Option Nat) (v2 : Option Nat) (v3 : Int) (h : zH) : zx zblk xs 0 865 [some (.inr (.inr v0)), some (.inr (.inr v1)), some (.inr (.inr v2)), some (.inl v3)] [] h = (zck h v1 6 (zci (zx zblk xs 157 0 [some (.inr (.inr v1))] [] h) fun r2 h1 => (zck h1 v2 7 (zci (zx zblk xs 60 0 [some (.inr (.inr v2))] [] h1) fun r4 h3 => (if zw r2 = zw r4 then zx zblk xs 0 1187 [some (.inr (.inr v0)), some (.inr (.inr v1)), some (.inr (.inr v2)), some (.inl v3)] [] h3 else (if 0 = 0 ∨ 0 = 1 then some (some (.inl 0), h3) else none)))))) := (zx_unfold zblk xs 0 865 _ rfl _ _ _).trans rfl
theorem e_L_law_878 (xs : List Int) (v0 : Option Nat) (v1 : Option Nat) (v2 : Option Nat) (v3 : Int) (h : zH) : zx zblk xs 0 878 [some (.inr (.inr v0)), some (.inr (.inr v1)), some (.inr (.inr v2)), some (.inl v3)] [] h = (zck h v1 6 (zci (zx zblk xs 158 0 [some (.inr (.inr v1))] [] h) fun r2 h1 => (zck h1 v2 7 (zci (zx zblk xs 63 0 [some (.inr (.inr v2))] [] h1) fun r4 h3 => (if zw r2 = zw r4 then zx zblk xs 0 1187 [some (.inr (.inr v0)), some (.inr (.inr v1)), some (.inr (.inr v2)), some (.inl v3)] [] h3 else (if 0 = 0 ∨ 0 = 1 then some (some (.inl 0), h3) else none)))))) := (zx_unfold zblk xs 0 878 _ rfl _ _ _).trans rfl
theorem e_L_law_891 (xs : List Int) (v0 : Option Nat) (v1 : Option Nat) (v2 : Option Nat) (v3 : Int) (h : zH) : zx zblk xs 0 891 [some (.inr (.inr v0)), some (.inr (.inr v1)), some (.inr (.inr v2)), some (.inl v3)] [] h = (zai xs h v0 (v3 + 1) fun a1 => (zai xs h v0 (v3 + 2) fun a2 => (zck h v1 6 (zci (zx zblk xs 159 0 [some (.inr (.inr v1)), some (.inl a1), some (.inl a2)] [] h) fun r4 h3 => (zai xs h3 v0 (v3 + 1) fun a5 => (zai xs h3 v0 (v3 + 2) fun a6 => (zck h3 v2 7 (zci (zx zblk xs 64 0 [some (.inr (.inr v2)), some (.inl a5), some (.inl a6)] [] h3) fun r8 h7 => (if zw r4 = zw r8 then zx zblk xs 0 1187 [some (.inr (.inr v0)), some (.inr (.inr v1)), some (.inr (.inr v2)), some (.inl v3)] [] h7 else (if 0 = 0 ∨ 0 = 1 then some (some (.inl 0), h7) else none)))))))))) := (zx_unfold zblk xs 0 891 _ rfl _ _ _).trans rfl
theorem e_L_law_924 (xs : List Int) (v0 : Option Nat) (v1 : Option Nat) (v2 : Option Nat) (v3 : Int) (h : zH) : zx zblk xs 0 924 [some (.inr (.inr v0)), some (.inr (.inr v1)), some (.inr (.inr v2)), some (.inl v3)] [] h = (zai xs h v0 (v3 + 1) fun a1 => (zai xs h v0 (v3 + 2) fun a2 => (zck h v1 6 (zcl (zx zblk xs 160 0 [some (.inr (.inr v1)), some (.inl a1), some (.inl a2)] [] h) fun r4 h3 => (zai xs h3 v0 (v3 + 1) fun a5 => (zai xs h3 v0 (v3 + 2) fun a6 => (zck h3 v2 7 (zcl (zx zblk xs 65 0 [some (.inr (.inr v2)), some (.inl a5), some (.inl a6)] [] h3) fun r8 h7 => (if zw (if zwl r4 < zwl r8 then -1 else if zwl r4 = zwl r8 then 0 else 1) = 0 then zx zblk xs 0 1187 [some (.inr (.inr v0)), some (.inr (.inr v1)), some (.inr (.inr v2)), some (.inl v3)] [] h7 else (if 0 = 0 ∨ 0 = 1 then some (some (.inl 0), h7) else none)))))))))) := (zx_unfold zblk xs 0 924 _ rfl _ _ _).trans rfl
theorem e_L_law_958 (xs : List Int) (v0 : Option Nat) (v1 : Option Nat) (v2 : Option Nat) (v3 : Int) (h : zH) : zx zblk xs 0 958 [some (.inr (.inr v0)), some (.inr (.inr v1)), some (.inr (.inr v2)), some (.inl v3)] [] h = (zai xs h v0 (v3 + 1) fun a1 => (zai xs h v0 (v3 + 2) fun a2 => (zck h v1 6 (zci (zx zblk xs 161 0 [some (.inr (.inr v1)), some (.inl a1), some (.inl a2)] [] h) fun r4 h3 => (zai xs h3 v0 (v3 + 1) fun a5 => (zai xs h3 v0 (v3 + 2) fun a6 => (zck h3 v2 7 (zci (zx zblk xs 68 0 [some (.inr (.inr v2)), some (.inl a5), some (.inl a6)] [] h3) fun r8 h7 => (if zw r4 = zw r8 then zx zblk xs 0 1187 [some (.inr (.inr v0)), some (.inr (.inr v1)), some (.inr (.inr v2)), some (.inl v3)] [] h7 else (if 0 = 0 ∨ 0 = 1 then some (some (.inl 0), h7) else none)))))))))) := (zx_unfold zblk xs 0 958 _ rfl _ _ _).trans rfl
theorem e_L_law_991 (xs : List Int) (v0 : Option Nat) (v1 : Option Nat) (v2 : Option Nat) (v3 : Int) (h : zH) : zx zblk xs 0 991 [some (.inr (.inr v0)), some (.inr (.inr v1)), some (.inr (.inr v2)), some (.inl v3)] [] h = (zai xs h v0 (v3 + 1) fun a1 => (zck h v1 6 (zci (zx zblk xs 162 0 [some (.inr (.inr v1)), some (.inl a1)] [] h) fun r3 h2 => (zai xs h2 v0 (v3 + 1) fun a4 => (zck h2 v2 7 (zci (zx zblk xs 69 0 [some (.inr (.inr v2)), some (.inl a4)] [] h2) fun r6 h5 => (if zw r3 = zw r6 then zx zblk xs 0 1187 [some (.inr (.inr v0)), some (.inr (.inr v1)), some (.inr (.inr v2)), some (.inl v3)] [] h5 else (if 0 = 0 ∨ 0 = 1 then some (some (.inl 0), h5) else none)))))))) := (zx_unfold zblk xs 0 991 _ rfl _ _ _).trans rfl
theorem e_L_law_1014 (xs : List Int) (v0 : Option Nat) (v1 : Option Nat) (v2 : Option Nat) (v3 : Int) (h : zH) : zx zblk xs 0 1014 [some (.inr (.inr v0)), some (.inr (.inr v1)), some (.inr (.inr v2)), some (.inl v3)] [] h = (zai xs h v0 (v3 + 1) fun a1 => (zai xs h v0 (v3 + 2) fun a2 => (zai xs h v0 (v3 + 3) fun a3 => (zai xs h v0 (v3 + 4) fun a4 => (zck h v1 6 (zcl (zx zblk xs 163 0 [some (.inr (.inr v1)), some (.inl a1), some (.inl a2), some (.inl a3), some (.inl a4)] [] h) fun r6 h5 => (zai xs h5 v0 (v3 + 1) fun a7 => (zai xs h5 v0 (v3 + 2) fun a8 => (zai xs h5 v0 (v3 + 3) fun a9 => (zai xs h5 v0 (v3 + 4) fun a10 => (zck h5 v2 7 (zcl (zx zblk xs 70 0 [some (.inr (.inr v2)), some (.inl a7), some (.inl a8), some (.inl a9), some (.inl a10)] [] h5) fun r12 h11 => (if zw (if zwl r6 < zwl r12 then -1 else if zwl r6 = zwl r12 then 0 else 1) = 0 then zx zblk xs 0 1187 [some (.inr (.inr v0)), some (.inr (.inr v1)), some (.inr (.inr v2)), some (.inl v3)] [] h11 else (if 0 = 0 ∨ 0 = 1 then some (some (.inl 0), h11) else none)))))))))))))) := (zx_unfold zblk xs 0 1014 _ rfl _ _ _).trans rfl
theorem e_L_law_1068 (xs : List Int) (v0 : Option Nat) (v1 : Option Nat) (v2 : Option Nat) (v3 : Int) (h : zH) : zx zblk xs 0 1068 [some (.inr (.inr v0)), some (.inr (.inr v1)), some (.inr (.inr v2)), some (.inl v3)] [] h = (zai xs h v0 (v3 + 1) fun a1 => (zai xs h v0 (v3 + 2) fun a2 => (zck h v1 6 (zci (zx zblk xs 164 0 [some (.inr (.inr v1)), some (.inl a1), some (.inl a2)] [] h) fun r4 h3 => (zai xs h3 v0 (v3 + 1) fun a5 => (zai xs h3 v0 (v3 + 2) fun a6 => (zck h3 v2 7 (zci (zx zblk xs 72 0 [some (.inr (.inr v2)), some (.inl a5), some (.inl a6)] [] h3) fun r8 h7 => (if zw r4 = zw r8 then zx zblk xs 0 1187 [some (.inr (.inr v0)), some (.inr (.inr v1)), some (.inr (.inr v2)), some (.inl v3)] [] h7 else (if 0 = 0 ∨ 0 = 1 then some (some (.inl 0), h7) else none)))))))))) := (zx_unfold zblk xs 0 1068 _ rfl _ _ _).trans rfl
theorem e_L_law_1101 (xs : List Int) (v0 : Option Nat) (v1 : Option Nat) (v2 : Option Nat) (v3 : Int) (h : zH) : zx zblk xs 0 1101 [some (.inr (.inr v0)), some (.inr (.inr v1)), some (.inr (.inr v2)), some (.inl v3)] [] h = (zai xs h v0 (v3 + 1) fun a1 => (zck h v1 6 (zci (zx zblk xs 165 0 [some (.inr (.inr v1)), some (.inl a1)] [] h) fun r3 h2 => (zai xs h2 v0 (v3 + 1) fun a4 => (zck h2 v2 7 (zci (zx zblk xs 74 0 [some (.inr (.inr v2)), some (.inl a4)] [] h2) fun r6 h5 => (if zw r3 = zw r6 then zx zblk xs 0 1187 [some (.inr (.inr v0)), some (.inr (.inr v1)), some (.inr (.inr v2)), some (.inl v3)] [] h5 else (if 0 = 0 ∨ 0 = 1 then some (some (.inl 0), h5) else none)))))))) := (zx_unfold zblk xs 0 1101 _ rfl _ _ _).trans rfl
theorem e_L_law_1124 (xs : List Int) (v0 : Option Nat) (v1 : Option Nat) (v2 : Option Nat) (v3 : Int) (h : zH) : zx zblk xs 0 1124 [some (.inr (.inr v0)), some (.inr (.inr v1)), some (.inr (.inr v2)), some (.inl v3)] [] h = (zck h v1 6 (zci (zx zblk xs 166 0 [some (.inr (.inr v1))] [] h) fun r2 h1 => (zck h1 v2 7 (zci (zx zblk xs 75 0 [some (.inr (.inr v2))] [] h1) fun r4 h3 => (if zw r2 = zw r4 then zx zblk xs 0 1187 [some (.inr (.inr v0)), some (.inr (.inr v1)), some (.inr (.inr v2)), some (.inl v3)] [] h3 else (if 0 = 0 ∨ 0 = 1 then some (some (.inl 0), h3) else none)))))) := (zx_unfold zblk xs 0 1124 _ rfl _ _ _).trans rfl
theorem e_L_law_1137 (xs : List Int) (v0 : Option Nat) (v1 : Option Nat) (v2 : Option Nat) (v3 : Int) (h : zH) : zx zblk xs 0 1137 [some (.inr (.inr v0)), some (.inr (.inr v1)), some (.inr (.inr v2)), some (.inl v3)] [] h = (zck h v1 6 (zci (zx zblk xs 167 0 [some (.inr (.inr v1))] [] h) fun r2 h1 => (zck h1 v2 7 (zci (zx zblk xs 76 0 [some (.inr (.inr v2))] [] h1) fun r4 h3 => (if zw r2 = zw r4 then zx zblk xs 0 1187 [some (.inr (.inr v0)), some (.inr (.inr v1)), some (.inr (.inr v2)), some (.inl v3)] [] h3 else (if 0 = 0 ∨ 0 = 1 then some (some (.inl 0), h3) else none)))))) := (zx_unfold zblk xs 0 1137 _ rfl _ _ _).trans rfl
theorem e_L_law_1150 (xs : List Int) (v0 : Option Nat) (v1 : Option Nat) (v2 : Option Nat) (v3 : Int) (h : zH) : zx zblk xs 0 1150 [some (.inr (.inr v0)), some (.inr (.inr v1)), some (.inr (.inr v2)), some (.inl v3)] [] h = (zai xs h v0 (v3 + 1) fun a1 => (zck h v1 6 (zci (zx zblk xs 168 0 [some (.inr (.inr v1)), some (.inl a1)] [] h) fun r3 h2 => (zai xs h2 v0 (v3 + 1) fun a4 => (zck h2 v2 7 (zci (zx zblk xs 78 0 [some (.inr (.inr v2)), some (.inl a4)] [] h2) fun r6 h5 => (if zw r3 = zw r6 then zx zblk xs 0 1187 [some (.inr (.inr v0)), some (.inr (.inr v1)), some (.inr (.inr v2)), some (.inl v3)] [] h5 else (if 0 = 0 ∨ 0 = 1 then some (some (.inl 0), h5) else none)))))))) := (zx_unfold zblk xs 0 1150 _ rfl _ _ _).trans rfl
theorem e_L_law_1173 (xs : List Int) (v0 : Option Nat) (v1 : Option Nat) (v2 : Option Nat) (v3 : Int) (h : zH) : zx zblk xs 0 1173 [some (.inr (.inr v0)), some (.inr (.inr v1)), some (.inr (.inr v2)), some (.inl v3)] [] h = (zck h v1 6 (zcl (zx zblk xs 169 0 [some (.inr (.inr v1))] [] h) fun r2 h1 => (zck h1 v2 7 (zcl (zx zblk xs 81 0 [some (.inr (.inr v2))] [] h1) fun r4 h3 => (if zw (if zwl r2 < zwl r4 then -1 else if zwl r2 = zwl r4 then 0 else 1) = 0 then zx zblk xs 0 1187 [some (.inr (.inr v0)), some (.inr (.inr v1)), some (.inr (.inr v2)), some (.inl v3)] [] h3 else (if 0 = 0 ∨ 0 = 1 then some (some (.inl 0), h3) else none)))))) := (zx_unfold zblk xs 0 1173 _ rfl _ _ _).trans rfl
theorem e_L_law_1187 (xs : List Int) (v0 : Option Nat) (v1 : Option Nat) (v2 : Option Nat) (v3 : Int) (h : zH) : zx zblk xs 0 1187 [some (.inr (.inr v0)), some (.inr (.inr v1)), some (.inr (.inr v2)), some (.inl v3)] [] h = zx zblk xs 0 18 [some (.inr (.inr v0)), some (.inr (.inr v1)), some (.inr (.inr v2)), some (.inl (v3 + 6))] [] h := (zx_unfold zblk xs 0 1187 _ rfl _ _ _).trans rfl
theorem e_L_law_1193 (xs : List Int)  (h : zH) : zx zblk xs 0 1193 [] [] h = (if 1 = 0 ∨ 1 = 1 then some (some (.inl 1), h) else none) := (zx_unfold zblk xs 0 1193 _ rfl _ _ _).trans rfl
end
section
/-! ===== the heap behind the constructors (its shape printed by a program of mine): no call changes its shape ===== -/
/-- tag, and of each place: 0 int, 1 long, 2 null, q + 3 the place q -/
def zsh : List (Nat × List Nat) := [(6, [5, 14, 16, 0, 17, 19, 46, 48, 0, 75, 77, 79, 81, 101]),
  (5, [6, 8, 10, 12]),
  (3, [7, 0]),
  (100, List.replicate 8 0),
  (3, [9, 0]),
  (100, List.replicate 8 0),
  (3, [11, 0]),
  (100, List.replicate 8 0),
  (3, [13, 0]),
  (100, List.replicate 8 0),
  (3, [15, 0]),
  (100, List.replicate 8 0),
  (102, [104, 145, 186, 227]),
  (3, [18, 0]),
  (100, List.replicate 48 0),
  (1, [20, 22]),
  (3, [21, 0]),
  (100, List.replicate 10 0),
  (4, [25, 23]),
  (3, [24, 0]),
  (100, List.replicate 0 0),
  (105, [26, 28, 30, 32, 34, 36, 38, 40, 42, 44]),
  (3, [27, 0]),
  (100, List.replicate 8 0),
  (3, [29, 0]),
  (100, List.replicate 8 0),
  (3, [31, 0]),
  (100, List.replicate 8 0),
  (3, [33, 0]),
  (100, List.replicate 8 0),
  (3, [35, 0]),
  (100, List.replicate 8 0),
  (3, [37, 0]),
  (100, List.replicate 8 0),
  (3, [39, 0]),
  (100, List.replicate 8 0),
  (3, [41, 0]),
  (100, List.replicate 8 0),
  (3, [43, 0]),
  (100, List.replicate 8 0),
  (3, [45, 0]),
  (100, List.replicate 8 0),
  (3, [47, 0]),
  (100, List.replicate 8 0),
  (1, [49, 51]),
  (3, [50, 0]),
  (100, List.replicate 10 0),
  (4, [54, 52]),
  (3, [53, 0]),
  (100, List.replicate 0 0),
  (105, [55, 57, 59, 61, 63, 65, 67, 69, 71, 73]),
  (3, [56, 0]),
  (100, List.replicate 8 0),
  (3, [58, 0]),
  (100, List.replicate 8 0),
  (3, [60, 0]),
  (100, List.replicate 8 0),
  (3, [62, 0]),
  (100, List.replicate 8 0),
  (3, [64, 0]),
  (100, List.replicate 8 0),
  (3, [66, 0]),
  (100, List.replicate 8 0),
  (3, [68, 0]),
  (100, List.replicate 8 0),
  (3, [70, 0]),
  (100, List.replicate 8 0),
  (3, [72, 0]),
  (100, List.replicate 8 0),
  (3, [74, 0]),
  (100, List.replicate 8 0),
  (3, [76, 0]),
  (100, List.replicate 48 0),
  (3, [78, 0]),
  (100, List.replicate 96 0),
  (3, [80, 0]),
  (100, List.replicate 8 0),
  (4, [84, 82]),
  (3, [83, 0]),
  (100, List.replicate 0 0),
  (105, [85, 87, 89, 91, 93, 95, 97, 99]),
  (3, [86, 0]),
  (100, List.replicate 10 0),
  (3, [88, 0]),
  (100, List.replicate 10 0),
  (3, [90, 0]),
  (100, List.replicate 10 0),
  (3, [92, 0]),
  (100, List.replicate 10 0),
  (3, [94, 0]),
  (100, List.replicate 10 0),
  (3, [96, 0]),
  (100, List.replicate 10 0),
  (3, [98, 0]),
  (100, List.replicate 10 0),
  (3, [100, 0]),
  (100, List.replicate 10 0),
  (2, [102, 0]),
  (3, [103, 0]),
  (100, List.replicate 80 0),
  (0, [105, 125, 0]),
  (4, [108, 106]),
  (3, [107, 0]),
  (100, List.replicate 0 0),
  (105, [109, 111, 113, 115, 117, 119, 121, 123]),
  (3, [110, 0]),
  (100, List.replicate 5 0),
  (3, [112, 0]),
  (100, List.replicate 5 0),
  (3, [114, 0]),
  (100, List.replicate 5 0),
  (3, [116, 0]),
  (100, List.replicate 5 0),
  (3, [118, 0]),
  (100, List.replicate 5 0),
  (3, [120, 0]),
  (100, List.replicate 5 0),
  (3, [122, 0]),
  (100, List.replicate 5 0),
  (3, [124, 0]),
  (100, List.replicate 5 0),
  (4, [128, 126]),
  (3, [127, 0]),
  (100, List.replicate 0 0),
  (105, [129, 131, 133, 135, 137, 139, 141, 143]),
  (3, [130, 0]),
  (100, List.replicate 10 0),
  (3, [132, 0]),
  (100, List.replicate 10 0),
  (3, [134, 0]),
  (100, List.replicate 10 0),
  (3, [136, 0]),
  (100, List.replicate 10 0),
  (3, [138, 0]),
  (100, List.replicate 10 0),
  (3, [140, 0]),
  (100, List.replicate 10 0),
  (3, [142, 0]),
  (100, List.replicate 10 0),
  (3, [144, 0]),
  (100, List.replicate 10 0),
  (0, [146, 166, 0]),
  (4, [149, 147]),
  (3, [148, 0]),
  (100, List.replicate 0 0),
  (105, [150, 152, 154, 156, 158, 160, 162, 164]),
  (3, [151, 0]),
  (100, List.replicate 5 0),
  (3, [153, 0]),
  (100, List.replicate 5 0),
  (3, [155, 0]),
  (100, List.replicate 5 0),
  (3, [157, 0]),
  (100, List.replicate 5 0),
  (3, [159, 0]),
  (100, List.replicate 5 0),
  (3, [161, 0]),
  (100, List.replicate 5 0),
  (3, [163, 0]),
  (100, List.replicate 5 0),
  (3, [165, 0]),
  (100, List.replicate 5 0),
  (4, [169, 167]),
  (3, [168, 0]),
  (100, List.replicate 0 0),
  (105, [170, 172, 174, 176, 178, 180, 182, 184]),
  (3, [171, 0]),
  (100, List.replicate 10 0),
  (3, [173, 0]),
  (100, List.replicate 10 0),
  (3, [175, 0]),
  (100, List.replicate 10 0),
  (3, [177, 0]),
  (100, List.replicate 10 0),
  (3, [179, 0]),
  (100, List.replicate 10 0),
  (3, [181, 0]),
  (100, List.replicate 10 0),
  (3, [183, 0]),
  (100, List.replicate 10 0),
  (3, [185, 0]),
  (100, List.replicate 10 0),
  (0, [187, 207, 0]),
  (4, [190, 188]),
  (3, [189, 0]),
  (100, List.replicate 0 0),
  (105, [191, 193, 195, 197, 199, 201, 203, 205]),
  (3, [192, 0]),
  (100, List.replicate 5 0),
  (3, [194, 0]),
  (100, List.replicate 5 0),
  (3, [196, 0]),
  (100, List.replicate 5 0),
  (3, [198, 0]),
  (100, List.replicate 5 0),
  (3, [200, 0]),
  (100, List.replicate 5 0),
  (3, [202, 0]),
  (100, List.replicate 5 0),
  (3, [204, 0]),
  (100, List.replicate 5 0),
  (3, [206, 0]),
  (100, List.replicate 5 0),
  (4, [210, 208]),
  (3, [209, 0]),
  (100, List.replicate 0 0),
  (105, [211, 213, 215, 217, 219, 221, 223, 225]),
  (3, [212, 0]),
  (100, List.replicate 10 0),
  (3, [214, 0]),
  (100, List.replicate 10 0),
  (3, [216, 0]),
  (100, List.replicate 10 0),
  (3, [218, 0]),
  (100, List.replicate 10 0),
  (3, [220, 0]),
  (100, List.replicate 10 0),
  (3, [222, 0]),
  (100, List.replicate 10 0),
  (3, [224, 0]),
  (100, List.replicate 10 0),
  (3, [226, 0]),
  (100, List.replicate 10 0),
  (0, [228, 248, 0]),
  (4, [231, 229]),
  (3, [230, 0]),
  (100, List.replicate 0 0),
  (105, [232, 234, 236, 238, 240, 242, 244, 246]),
  (3, [233, 0]),
  (100, List.replicate 5 0),
  (3, [235, 0]),
  (100, List.replicate 5 0),
  (3, [237, 0]),
  (100, List.replicate 5 0),
  (3, [239, 0]),
  (100, List.replicate 5 0),
  (3, [241, 0]),
  (100, List.replicate 5 0),
  (3, [243, 0]),
  (100, List.replicate 5 0),
  (3, [245, 0]),
  (100, List.replicate 5 0),
  (3, [247, 0]),
  (100, List.replicate 5 0),
  (4, [251, 249]),
  (3, [250, 0]),
  (100, List.replicate 0 0),
  (105, [252, 254, 256, 258, 260, 262, 264, 266]),
  (3, [253, 0]),
  (100, List.replicate 10 0),
  (3, [255, 0]),
  (100, List.replicate 10 0),
  (3, [257, 0]),
  (100, List.replicate 10 0),
  (3, [259, 0]),
  (100, List.replicate 10 0),
  (3, [261, 0]),
  (100, List.replicate 10 0),
  (3, [263, 0]),
  (100, List.replicate 10 0),
  (3, [265, 0]),
  (100, List.replicate 10 0),
  (3, [267, 0]),
  (100, List.replicate 10 0),
  (7, [269, 0, 0, 0, 270, 0, 271, 272, 0, 273, 0, 274, 275, 0, 276, 277, 0, 278, 0, 279, 280, 281, 0, 0, 282, 283, 1]),
  (100, List.replicate 48 0),
  (100, List.replicate 48 0),
  (100, List.replicate 4 0),
  (100, List.replicate 192 0),
  (100, List.replicate 32 0),
  (100, List.replicate 8 0),
  (100, List.replicate 96 0),
  (100, List.replicate 88 0),
  (100, List.replicate 88 0),
  (100, List.replicate 16 0),
  (100, List.replicate 100 0),
  (101, List.replicate 256 1),
  (101, List.replicate 256 1),
  (100, List.replicate 8 0),
  (100, List.replicate 100 0)]
def zkv (kd : Nat) (v : Int) : zV := match kd with
  | 0 => .inl v
  | 1 => .inr (.inl v)
  | 2 => .inr (.inr none)
  | q + 3 => .inr (.inr (some q))
def zcell (c : Nat × List Nat) (f : Int → Int) : Nat × List zV := (c.1, c.2.mapIdx fun k kd => zkv kd (f k))
abbrev zG' : Type := Nat → Int → Int
def HH (g : Nat → Int → Int) : zH := zsh.mapIdx fun q c => zcell c (g (q + 1))
def up (g : Nat → Int → Int) (p : Nat) (i v : Int) : Nat → Int → Int := fun q j => if q = p ∧ j = i then v else g q j
theorem up_same (g : Nat → Int → Int) (p : Nat) (i v : Int) : up g p i v p i = v := by simp [up]
theorem up_ne (g : Nat → Int → Int) {p q : Nat} {i j : Int} (v : Int) (h : ¬ (q = p ∧ j = i)) : up g p i v q j = g q j := by simp only [up, if_neg h]
theorem up_p (g : Nat → Int → Int) {p q : Nat} (i v : Int) (h : q ≠ p) : up g p i v q = g q := by funext j; simp [up, h]
theorem HH_get {g : Nat → Int → Int} {q : Nat} {c : Nat × List Nat} (h : zsh[q]? = some c) : (HH g)[q]? = some (zcell c (g (q + 1))) := by
  simp [HH, List.getElem?_mapIdx, h]
theorem zcell_get {c : Nat × List Nat} {f : Int → Int} {k kd : Nat} (h : c.2[k]? = some kd) : (zcell c f).2[k]? = some (zkv kd (f k)) := by
  simp [zcell, List.getElem?_mapIdx, h]
theorem HH_set {g : Nat → Int → Int} {q k kd : Nat} {c : Nat × List Nat} {v : Int} (h : zsh[q]? = some c) (hk : c.2[k]? = some kd) : (HH g).set q ((zcell c (g (q + 1))).1, (zcell c (g (q + 1))).2.set k (zkv kd v)) = HH (up g (q + 1) k v) := by
  have hl : q < zsh.length := (List.getElem?_eq_some_iff.mp h).1
  apply List.ext_getElem?
  intro n
  by_cases hn : n = q
  · subst hn
    rw [List.getElem?_set_self (by simp [HH]; exact hl), HH_get h]
    congr 1
    simp only [zcell]
    congr 1
    apply List.ext_getElem?
    intro j
    have hkl : k < c.2.length := (List.getElem?_eq_some_iff.mp hk).1
    by_cases hj : j = k
    · subst hj
      rw [List.getElem?_set_self (by simp; exact hkl)]
      simp [List.getElem?_mapIdx, hk, up]
    · rw [List.getElem?_set_ne (Ne.symm hj)]
      simp only [List.getElem?_mapIdx]
      cases c.2[j]? with
      | none => rfl
      | some kd2 =>
        simp only [Option.map_some]
        rw [up_ne]
        intro z
        exact hj (by have := z.2; omega)
  · rw [List.getElem?_set_ne (Ne.symm hn)]
    simp only [HH, List.getElem?_mapIdx]
    cases zsh[n]? with
    | none => rfl
    | some c2 =>
      simp only [Option.map_some]
      rw [up_p]
      omega
theorem HH_gi {g : Nat → Int → Int} {p ci j : Nat} {c : Nat × List Nat} (h : zsh[p - 1]? = some c) (hp : p ≠ 0) (ht : c.1 = ci) (hk : c.2[j]? = some 0) (f : Int → Option zR) : zgi (HH g) (some p) ci j f = f (g p j) := by
  obtain ⟨q, rfl⟩ : ∃ q, p = q + 1 := ⟨p - 1, by omega⟩
  have h' := HH_get (g := g) h
  simp only [Nat.add_sub_cancel] at h'
  have hk' := zcell_get (f := g (q + 1)) hk
  simp [zgi, zfd, h', hk', ht, zkv]
  simp [zcell, ht]
theorem HH_gl {g : Nat → Int → Int} {p ci j : Nat} {c : Nat × List Nat} (h : zsh[p - 1]? = some c) (hp : p ≠ 0) (ht : c.1 = ci) (hk : c.2[j]? = some 1) (f : Int → Option zR) : zgl (HH g) (some p) ci j f = f (g p j) := by
  obtain ⟨q, rfl⟩ : ∃ q, p = q + 1 := ⟨p - 1, by omega⟩
  have h' := HH_get (g := g) h
  simp only [Nat.add_sub_cancel] at h'
  have hk' := zcell_get (f := g (q + 1)) hk
  simp [zgl, zfd, h', hk', ht, zkv]
  simp [zcell, ht]
theorem HH_gr {g : Nat → Int → Int} {p ci j r : Nat} {c : Nat × List Nat} (h : zsh[p - 1]? = some c) (hp : p ≠ 0) (ht : c.1 = ci) (hk : c.2[j]? = some (r + 3)) (f : Option Nat → Option zR) : zgr (HH g) (some p) ci j f = f (some r) := by
  obtain ⟨q, rfl⟩ : ∃ q, p = q + 1 := ⟨p - 1, by omega⟩
  have h' := HH_get (g := g) h
  simp only [Nat.add_sub_cancel] at h'
  have hk' := zcell_get (f := g (q + 1)) hk
  simp [zgr, zfd, h', hk', ht, zkv]
  simp [zcell, ht]
theorem HH_pf {g : Nat → Int → Int} {p ci j : Nat} {c : Nat × List Nat} {v : Int} (h : zsh[p - 1]? = some c) (hp : p ≠ 0) (ht : c.1 = ci) (hk : c.2[j]? = some 0) (f : zH → Option zR) : zpf (HH g) (some p) ci j (.inl v) f = f (HH (up g p j v)) := by
  obtain ⟨q, rfl⟩ : ∃ q, p = q + 1 := ⟨p - 1, by omega⟩
  have h' := HH_get (g := g) h
  simp only [Nat.add_sub_cancel] at h'
  have hs := HH_set (g := g) (q := q) (v := v) h hk
  have hl : j < c.2.length := (List.getElem?_eq_some_iff.mp hk).1
  simp only [zpf, h']
  rw [if_pos ⟨ht, by simp [zcell]; exact hl⟩]
  exact congrArg f hs
theorem HH_pfl {g : Nat → Int → Int} {p ci j : Nat} {c : Nat × List Nat} {v : Int} (h : zsh[p - 1]? = some c) (hp : p ≠ 0) (ht : c.1 = ci) (hk : c.2[j]? = some 1) (f : zH → Option zR) : zpf (HH g) (some p) ci j (.inr (.inl v)) f = f (HH (up g p j v)) := by
  obtain ⟨q, rfl⟩ : ∃ q, p = q + 1 := ⟨p - 1, by omega⟩
  have h' := HH_get (g := g) h
  simp only [Nat.add_sub_cancel] at h'
  have hs := HH_set (g := g) (q := q) (v := v) h hk
  have hl : j < c.2.length := (List.getElem?_eq_some_iff.mp hk).1
  simp only [zpf, h']
  rw [if_pos ⟨ht, by simp [zcell]; exact hl⟩]
  exact congrArg f hs
theorem HH_ai {xs : List Int} {g : Nat → Int → Int} {p n : Nat} (h : zsh[p - 1]? = some (100, List.replicate n 0)) (hp : p ≠ 0) (hn : n ≤ 1000) {i : Int} (h0 : 0 ≤ i) (h1 : i < n) (f : Int → Option zR) : zai xs (HH g) (some p) i f = f (g p i) := by
  obtain ⟨q, rfl⟩ : ∃ q, p = q + 1 := ⟨p - 1, by omega⟩
  have h' := HH_get (g := g) h
  simp only [Nat.add_sub_cancel] at h'
  have hz : zw i = i := zw_id (by omega) (by omega)
  have hk : (List.replicate n 0)[i.toNat]? = some 0 := by rw [List.getElem?_replicate, if_pos (by omega)]
  have hk' := zcell_get (c := (100, List.replicate n 0)) (f := g (q + 1)) hk
  simp only [zai, zar, h', hz]
  rw [if_pos ⟨rfl, h0⟩, hk']
  simp only [zkv]
  rw [Int.toNat_of_nonneg h0]
theorem HH_al {xs : List Int} {g : Nat → Int → Int} {p n : Nat} (h : zsh[p - 1]? = some (101, List.replicate n 1)) (hp : p ≠ 0) (hn : n ≤ 1000) {i : Int} (h0 : 0 ≤ i) (h1 : i < n) (f : Int → Option zR) : zal xs (HH g) (some p) i f = f (g p i) := by
  obtain ⟨q, rfl⟩ : ∃ q, p = q + 1 := ⟨p - 1, by omega⟩
  have h' := HH_get (g := g) h
  simp only [Nat.add_sub_cancel] at h'
  have hz : zw i = i := zw_id (by omega) (by omega)
  have hk : (List.replicate n 1)[i.toNat]? = some 1 := by rw [List.getElem?_replicate, if_pos (by omega)]
  have hk' := zcell_get (c := (101, List.replicate n 1)) (f := g (q + 1)) hk
  simp only [zal, zar, h', hz]
  rw [if_pos ⟨rfl, h0⟩, hk']
  simp only [zkv]
  rw [Int.toNat_of_nonneg h0]
theorem HH_aa {xs : List Int} {g : Nat → Int → Int} {p tag n r : Nat} {rs : List Nat} (h : zsh[p - 1]? = some (tag, rs)) (hp : p ≠ 0) (ht : 101 < tag) {i : Int} (h0 : 0 ≤ i) (h1 : i < 1000) (hr : rs[i.toNat]? = some (r + 3)) (f : Option Nat → Option zR) : zaa xs (HH g) (some p) tag i f = f (some r) := by
  obtain ⟨q, rfl⟩ : ∃ q, p = q + 1 := ⟨p - 1, by omega⟩
  have h' := HH_get (g := g) h
  simp only [Nat.add_sub_cancel] at h'
  have hz : zw i = i := zw_id (by omega) (by omega)
  have hk' := zcell_get (c := (tag, rs)) (f := g (q + 1)) hr
  simp only [zaa, zar, h', hz]
  rw [if_pos ⟨rfl, h0⟩, hk']
  simp only [zkv]
theorem HH_st {g : Nat → Int → Int} {p n : Nat} {v : Int} (h : zsh[p - 1]? = some (100, List.replicate n 0)) (hp : p ≠ 0) (hn : n ≤ 1000) {i : Int} (h0 : 0 ≤ i) (h1 : i < n) (f : zH → Option zR) : zst (HH g) (some p) 100 i (.inl v) f = f (HH (up g p i v)) := by
  obtain ⟨q, rfl⟩ : ∃ q, p = q + 1 := ⟨p - 1, by omega⟩
  have h' := HH_get (g := g) h
  simp only [Nat.add_sub_cancel] at h'
  have hz : zw i = i := zw_id (by omega) (by omega)
  have hk : (List.replicate n 0)[i.toNat]? = some 0 := by rw [List.getElem?_replicate, if_pos (by omega)]
  have hs := HH_set (g := g) (q := q) (v := v) h hk
  simp only [zst, h', hz]
  rw [if_pos ⟨rfl, h0, by simp [zcell]; omega⟩]
  rw [Int.toNat_of_nonneg h0] at hs
  exact congrArg f hs
theorem HH_stl {g : Nat → Int → Int} {p n : Nat} {v : Int} (h : zsh[p - 1]? = some (101, List.replicate n 1)) (hp : p ≠ 0) (hn : n ≤ 1000) {i : Int} (h0 : 0 ≤ i) (h1 : i < n) (f : zH → Option zR) : zst (HH g) (some p) 101 i (.inr (.inl v)) f = f (HH (up g p i v)) := by
  obtain ⟨q, rfl⟩ : ∃ q, p = q + 1 := ⟨p - 1, by omega⟩
  have h' := HH_get (g := g) h
  simp only [Nat.add_sub_cancel] at h'
  have hz : zw i = i := zw_id (by omega) (by omega)
  have hk : (List.replicate n 1)[i.toNat]? = some 1 := by rw [List.getElem?_replicate, if_pos (by omega)]
  have hs := HH_set (g := g) (q := q) (v := v) h hk
  simp only [zst, h', hz]
  rw [if_pos ⟨rfl, h0, by simp [zcell]; omega⟩]
  rw [Int.toNat_of_nonneg h0] at hs
  exact congrArg f hs
theorem HH_ln {xs : List Int} {g : Nat → Int → Int} {p : Nat} {c : Nat × List Nat} (h : zsh[p - 1]? = some c) (hp : p ≠ 0) (ht : 100 ≤ c.1) (f : Int → Option zR) : zln xs (HH g) (some p) f = f (c.2.length : Int) := by
  obtain ⟨q, rfl⟩ : ∃ q, p = q + 1 := ⟨p - 1, by omega⟩
  have h' := HH_get (g := g) h
  simp only [Nat.add_sub_cancel] at h'
  simp only [zln, h']
  rw [if_pos (show 100 ≤ (zcell c _).1 from ht)]
  simp [zcell]
theorem HH_ck {g : Nat → Int → Int} {p ci : Nat} {c : Nat × List Nat} (h : zsh[p - 1]? = some c) (hp : p ≠ 0) (ht : c.1 = ci) (o : Option zR) : zck (HH g) (some p) ci o = o := by
  obtain ⟨q, rfl⟩ : ∃ q, p = q + 1 := ⟨p - 1, by omega⟩
  have h' := HH_get (g := g) h
  simp only [Nat.add_sub_cancel] at h'
  simp only [zck, h']
  rw [if_pos (show (zcell c _).1 = ci from ht)]
theorem zci_ok (v : Int) (h : zH) (f : Int → zH → Option zR) : zci (some (some (.inl v), h)) f = f v h := rfl
theorem zcl_ok' (v : Int) (h : zH) (f : Int → zH → Option zR) : zcl (some (some (.inr (.inl v)), h)) f = f v h := rfl
theorem zcr_ok (v : Option Nat) (h : zH) (f : Option Nat → zH → Option zR) : zcr (some (some (.inr (.inr v)), h)) f = f v h := rfl
theorem zcv_ok (h : zH) (f : zH → Option zR) : zcv (some (none, h)) f = f h := rfl

abbrev pM : Nat := 265
theorem pM_ck (g : Nat → Int → Int) (o : Option zR) : zck (HH g) (some pM) 7 o = o := HH_ck (p := pM) rfl (by decide) rfl o
abbrev pM_page : Nat := 266
theorem pM_r_page (g : Nat → Int → Int) (f : Option Nat → Option zR) : zgr (HH g) (some pM) 7 0 f = f (some pM_page) := HH_gr (p := pM) (j := 0) rfl (by decide) rfl rfl f
theorem pM_a_page (xs : List Int) (g : Nat → Int → Int) {i : Int} (h0 : 0 ≤ i) (h1 : i < 48) (f : Int → Option zR) : zai xs (HH g) (some pM_page) i f = f (g pM_page i) := HH_ai (p := pM_page) (n := 48) rfl (by decide) (by decide) h0 h1 f
theorem pM_s_page (g : Nat → Int → Int) {i : Int} (v : Int) (h0 : 0 ≤ i) (h1 : i < 48) (f : zH → Option zR) : zst (HH g) (some pM_page) 100 i (.inl v) f = f (HH (up g pM_page i v)) := HH_st (p := pM_page) (n := 48) rfl (by decide) (by decide) h0 h1 f
theorem pM_g_pageMany (g : Nat → Int → Int) (f : Int → Option zR) : zgi (HH g) (some pM) 7 1 f = f (g pM 1) := HH_gi (p := pM) (j := 1) rfl (by decide) rfl rfl f
theorem pM_p_pageMany (g : Nat → Int → Int) (v : Int) (f : zH → Option zR) : zpf (HH g) (some pM) 7 1 (.inl v) f = f (HH (up g pM 1 v)) := HH_pf (p := pM) (j := 1) rfl (by decide) rfl rfl f
theorem pM_g_readMany (g : Nat → Int → Int) (f : Int → Option zR) : zgi (HH g) (some pM) 7 2 f = f (g pM 2) := HH_gi (p := pM) (j := 2) rfl (by decide) rfl rfl f
theorem pM_p_readMany (g : Nat → Int → Int) (v : Int) (f : zH → Option zR) : zpf (HH g) (some pM) 7 2 (.inl v) f = f (HH (up g pM 2 v)) := HH_pf (p := pM) (j := 2) rfl (by decide) rfl rfl f
theorem pM_g_readLetters (g : Nat → Int → Int) (f : Int → Option zR) : zgi (HH g) (some pM) 7 3 f = f (g pM 3) := HH_gi (p := pM) (j := 3) rfl (by decide) rfl rfl f
theorem pM_p_readLetters (g : Nat → Int → Int) (v : Int) (f : zH → Option zR) : zpf (HH g) (some pM) 7 3 (.inl v) f = f (HH (up g pM 3 v)) := HH_pf (p := pM) (j := 3) rfl (by decide) rfl rfl f
abbrev pM_readRows : Nat := 267
theorem pM_r_readRows (g : Nat → Int → Int) (f : Option Nat → Option zR) : zgr (HH g) (some pM) 7 4 f = f (some pM_readRows) := HH_gr (p := pM) (j := 4) rfl (by decide) rfl rfl f
theorem pM_a_readRows (xs : List Int) (g : Nat → Int → Int) {i : Int} (h0 : 0 ≤ i) (h1 : i < 48) (f : Int → Option zR) : zai xs (HH g) (some pM_readRows) i f = f (g pM_readRows i) := HH_ai (p := pM_readRows) (n := 48) rfl (by decide) (by decide) h0 h1 f
theorem pM_s_readRows (g : Nat → Int → Int) {i : Int} (v : Int) (h0 : 0 ≤ i) (h1 : i < 48) (f : zH → Option zR) : zst (HH g) (some pM_readRows) 100 i (.inl v) f = f (HH (up g pM_readRows i v)) := HH_st (p := pM_readRows) (n := 48) rfl (by decide) (by decide) h0 h1 f
theorem pM_g_codes (g : Nat → Int → Int) (f : Int → Option zR) : zgi (HH g) (some pM) 7 5 f = f (g pM 5) := HH_gi (p := pM) (j := 5) rfl (by decide) rfl rfl f
theorem pM_p_codes (g : Nat → Int → Int) (v : Int) (f : zH → Option zR) : zpf (HH g) (some pM) 7 5 (.inl v) f = f (HH (up g pM 5 v)) := HH_pf (p := pM) (j := 5) rfl (by decide) rfl rfl f
abbrev pM_speeches : Nat := 268
theorem pM_r_speeches (g : Nat → Int → Int) (f : Option Nat → Option zR) : zgr (HH g) (some pM) 7 6 f = f (some pM_speeches) := HH_gr (p := pM) (j := 6) rfl (by decide) rfl rfl f
theorem pM_a_speeches (xs : List Int) (g : Nat → Int → Int) {i : Int} (h0 : 0 ≤ i) (h1 : i < 4) (f : Int → Option zR) : zai xs (HH g) (some pM_speeches) i f = f (g pM_speeches i) := HH_ai (p := pM_speeches) (n := 4) rfl (by decide) (by decide) h0 h1 f
theorem pM_s_speeches (g : Nat → Int → Int) {i : Int} (v : Int) (h0 : 0 ≤ i) (h1 : i < 4) (f : zH → Option zR) : zst (HH g) (some pM_speeches) 100 i (.inl v) f = f (HH (up g pM_speeches i v)) := HH_st (p := pM_speeches) (n := 4) rfl (by decide) (by decide) h0 h1 f
abbrev pM_rows : Nat := 269
theorem pM_r_rows (g : Nat → Int → Int) (f : Option Nat → Option zR) : zgr (HH g) (some pM) 7 7 f = f (some pM_rows) := HH_gr (p := pM) (j := 7) rfl (by decide) rfl rfl f
theorem pM_a_rows (xs : List Int) (g : Nat → Int → Int) {i : Int} (h0 : 0 ≤ i) (h1 : i < 192) (f : Int → Option zR) : zai xs (HH g) (some pM_rows) i f = f (g pM_rows i) := HH_ai (p := pM_rows) (n := 192) rfl (by decide) (by decide) h0 h1 f
theorem pM_s_rows (g : Nat → Int → Int) {i : Int} (v : Int) (h0 : 0 ≤ i) (h1 : i < 192) (f : zH → Option zR) : zst (HH g) (some pM_rows) 100 i (.inl v) f = f (HH (up g pM_rows i v)) := HH_st (p := pM_rows) (n := 192) rfl (by decide) (by decide) h0 h1 f
theorem pM_g_signals (g : Nat → Int → Int) (f : Int → Option zR) : zgi (HH g) (some pM) 7 8 f = f (g pM 8) := HH_gi (p := pM) (j := 8) rfl (by decide) rfl rfl f
theorem pM_p_signals (g : Nat → Int → Int) (v : Int) (f : zH → Option zR) : zpf (HH g) (some pM) 7 8 (.inl v) f = f (HH (up g pM 8 v)) := HH_pf (p := pM) (j := 8) rfl (by decide) rfl rfl f
abbrev pM_signalRows : Nat := 270
theorem pM_r_signalRows (g : Nat → Int → Int) (f : Option Nat → Option zR) : zgr (HH g) (some pM) 7 9 f = f (some pM_signalRows) := HH_gr (p := pM) (j := 9) rfl (by decide) rfl rfl f
theorem pM_a_signalRows (xs : List Int) (g : Nat → Int → Int) {i : Int} (h0 : 0 ≤ i) (h1 : i < 32) (f : Int → Option zR) : zai xs (HH g) (some pM_signalRows) i f = f (g pM_signalRows i) := HH_ai (p := pM_signalRows) (n := 32) rfl (by decide) (by decide) h0 h1 f
theorem pM_s_signalRows (g : Nat → Int → Int) {i : Int} (v : Int) (h0 : 0 ≤ i) (h1 : i < 32) (f : zH → Option zR) : zst (HH g) (some pM_signalRows) 100 i (.inl v) f = f (HH (up g pM_signalRows i v)) := HH_st (p := pM_signalRows) (n := 32) rfl (by decide) (by decide) h0 h1 f
theorem pM_g_things (g : Nat → Int → Int) (f : Int → Option zR) : zgi (HH g) (some pM) 7 10 f = f (g pM 10) := HH_gi (p := pM) (j := 10) rfl (by decide) rfl rfl f
theorem pM_p_things (g : Nat → Int → Int) (v : Int) (f : zH → Option zR) : zpf (HH g) (some pM) 7 10 (.inl v) f = f (HH (up g pM 10 v)) := HH_pf (p := pM) (j := 10) rfl (by decide) rfl rfl f
abbrev pM_weights : Nat := 271
theorem pM_r_weights (g : Nat → Int → Int) (f : Option Nat → Option zR) : zgr (HH g) (some pM) 7 11 f = f (some pM_weights) := HH_gr (p := pM) (j := 11) rfl (by decide) rfl rfl f
theorem pM_a_weights (xs : List Int) (g : Nat → Int → Int) {i : Int} (h0 : 0 ≤ i) (h1 : i < 8) (f : Int → Option zR) : zai xs (HH g) (some pM_weights) i f = f (g pM_weights i) := HH_ai (p := pM_weights) (n := 8) rfl (by decide) (by decide) h0 h1 f
theorem pM_s_weights (g : Nat → Int → Int) {i : Int} (v : Int) (h0 : 0 ≤ i) (h1 : i < 8) (f : zH → Option zR) : zst (HH g) (some pM_weights) 100 i (.inl v) f = f (HH (up g pM_weights i v)) := HH_st (p := pM_weights) (n := 8) rfl (by decide) (by decide) h0 h1 f
abbrev pM_plain : Nat := 272
theorem pM_r_plain (g : Nat → Int → Int) (f : Option Nat → Option zR) : zgr (HH g) (some pM) 7 12 f = f (some pM_plain) := HH_gr (p := pM) (j := 12) rfl (by decide) rfl rfl f
theorem pM_a_plain (xs : List Int) (g : Nat → Int → Int) {i : Int} (h0 : 0 ≤ i) (h1 : i < 96) (f : Int → Option zR) : zai xs (HH g) (some pM_plain) i f = f (g pM_plain i) := HH_ai (p := pM_plain) (n := 96) rfl (by decide) (by decide) h0 h1 f
theorem pM_s_plain (g : Nat → Int → Int) {i : Int} (v : Int) (h0 : 0 ≤ i) (h1 : i < 96) (f : zH → Option zR) : zst (HH g) (some pM_plain) 100 i (.inl v) f = f (HH (up g pM_plain i v)) := HH_st (p := pM_plain) (n := 96) rfl (by decide) (by decide) h0 h1 f
theorem pM_g_plainMany (g : Nat → Int → Int) (f : Int → Option zR) : zgi (HH g) (some pM) 7 13 f = f (g pM 13) := HH_gi (p := pM) (j := 13) rfl (by decide) rfl rfl f
theorem pM_p_plainMany (g : Nat → Int → Int) (v : Int) (f : zH → Option zR) : zpf (HH g) (some pM) 7 13 (.inl v) f = f (HH (up g pM 13 v)) := HH_pf (p := pM) (j := 13) rfl (by decide) rfl rfl f
abbrev pM_plains : Nat := 273
theorem pM_r_plains (g : Nat → Int → Int) (f : Option Nat → Option zR) : zgr (HH g) (some pM) 7 14 f = f (some pM_plains) := HH_gr (p := pM) (j := 14) rfl (by decide) rfl rfl f
theorem pM_a_plains (xs : List Int) (g : Nat → Int → Int) {i : Int} (h0 : 0 ≤ i) (h1 : i < 88) (f : Int → Option zR) : zai xs (HH g) (some pM_plains) i f = f (g pM_plains i) := HH_ai (p := pM_plains) (n := 88) rfl (by decide) (by decide) h0 h1 f
theorem pM_s_plains (g : Nat → Int → Int) {i : Int} (v : Int) (h0 : 0 ≤ i) (h1 : i < 88) (f : zH → Option zR) : zst (HH g) (some pM_plains) 100 i (.inl v) f = f (HH (up g pM_plains i v)) := HH_st (p := pM_plains) (n := 88) rfl (by decide) (by decide) h0 h1 f
abbrev pM_ahead : Nat := 274
theorem pM_r_ahead (g : Nat → Int → Int) (f : Option Nat → Option zR) : zgr (HH g) (some pM) 7 15 f = f (some pM_ahead) := HH_gr (p := pM) (j := 15) rfl (by decide) rfl rfl f
theorem pM_a_ahead (xs : List Int) (g : Nat → Int → Int) {i : Int} (h0 : 0 ≤ i) (h1 : i < 88) (f : Int → Option zR) : zai xs (HH g) (some pM_ahead) i f = f (g pM_ahead i) := HH_ai (p := pM_ahead) (n := 88) rfl (by decide) (by decide) h0 h1 f
theorem pM_s_ahead (g : Nat → Int → Int) {i : Int} (v : Int) (h0 : 0 ≤ i) (h1 : i < 88) (f : zH → Option zR) : zst (HH g) (some pM_ahead) 100 i (.inl v) f = f (HH (up g pM_ahead i v)) := HH_st (p := pM_ahead) (n := 88) rfl (by decide) (by decide) h0 h1 f
theorem pM_g_least (g : Nat → Int → Int) (f : Int → Option zR) : zgi (HH g) (some pM) 7 16 f = f (g pM 16) := HH_gi (p := pM) (j := 16) rfl (by decide) rfl rfl f
theorem pM_p_least (g : Nat → Int → Int) (v : Int) (f : zH → Option zR) : zpf (HH g) (some pM) 7 16 (.inl v) f = f (HH (up g pM 16 v)) := HH_pf (p := pM) (j := 16) rfl (by decide) rfl rfl f
abbrev pM_heap : Nat := 275
theorem pM_r_heap (g : Nat → Int → Int) (f : Option Nat → Option zR) : zgr (HH g) (some pM) 7 17 f = f (some pM_heap) := HH_gr (p := pM) (j := 17) rfl (by decide) rfl rfl f
theorem pM_a_heap (xs : List Int) (g : Nat → Int → Int) {i : Int} (h0 : 0 ≤ i) (h1 : i < 16) (f : Int → Option zR) : zai xs (HH g) (some pM_heap) i f = f (g pM_heap i) := HH_ai (p := pM_heap) (n := 16) rfl (by decide) (by decide) h0 h1 f
theorem pM_s_heap (g : Nat → Int → Int) {i : Int} (v : Int) (h0 : 0 ≤ i) (h1 : i < 16) (f : zH → Option zR) : zst (HH g) (some pM_heap) 100 i (.inl v) f = f (HH (up g pM_heap i v)) := HH_st (p := pM_heap) (n := 16) rfl (by decide) (by decide) h0 h1 f
theorem pM_g_notes (g : Nat → Int → Int) (f : Int → Option zR) : zgi (HH g) (some pM) 7 18 f = f (g pM 18) := HH_gi (p := pM) (j := 18) rfl (by decide) rfl rfl f
theorem pM_p_notes (g : Nat → Int → Int) (v : Int) (f : zH → Option zR) : zpf (HH g) (some pM) 7 18 (.inl v) f = f (HH (up g pM 18 v)) := HH_pf (p := pM) (j := 18) rfl (by decide) rfl rfl f
abbrev pM_noteRows : Nat := 276
theorem pM_r_noteRows (g : Nat → Int → Int) (f : Option Nat → Option zR) : zgr (HH g) (some pM) 7 19 f = f (some pM_noteRows) := HH_gr (p := pM) (j := 19) rfl (by decide) rfl rfl f
theorem pM_a_noteRows (xs : List Int) (g : Nat → Int → Int) {i : Int} (h0 : 0 ≤ i) (h1 : i < 100) (f : Int → Option zR) : zai xs (HH g) (some pM_noteRows) i f = f (g pM_noteRows i) := HH_ai (p := pM_noteRows) (n := 100) rfl (by decide) (by decide) h0 h1 f
theorem pM_s_noteRows (g : Nat → Int → Int) {i : Int} (v : Int) (h0 : 0 ≤ i) (h1 : i < 100) (f : zH → Option zR) : zst (HH g) (some pM_noteRows) 100 i (.inl v) f = f (HH (up g pM_noteRows i v)) := HH_st (p := pM_noteRows) (n := 100) rfl (by decide) (by decide) h0 h1 f
abbrev pM_ways : Nat := 277
theorem pM_r_ways (g : Nat → Int → Int) (f : Option Nat → Option zR) : zgr (HH g) (some pM) 7 20 f = f (some pM_ways) := HH_gr (p := pM) (j := 20) rfl (by decide) rfl rfl f
theorem pM_a_ways (xs : List Int) (g : Nat → Int → Int) {i : Int} (h0 : 0 ≤ i) (h1 : i < 256) (f : Int → Option zR) : zal xs (HH g) (some pM_ways) i f = f (g pM_ways i) := HH_al (p := pM_ways) (n := 256) rfl (by decide) (by decide) h0 h1 f
theorem pM_s_ways (g : Nat → Int → Int) {i : Int} (v : Int) (h0 : 0 ≤ i) (h1 : i < 256) (f : zH → Option zR) : zst (HH g) (some pM_ways) 101 i (.inr (.inl v)) f = f (HH (up g pM_ways i v)) := HH_stl (p := pM_ways) (n := 256) rfl (by decide) (by decide) h0 h1 f
abbrev pM_before : Nat := 278
theorem pM_r_before (g : Nat → Int → Int) (f : Option Nat → Option zR) : zgr (HH g) (some pM) 7 21 f = f (some pM_before) := HH_gr (p := pM) (j := 21) rfl (by decide) rfl rfl f
theorem pM_a_before (xs : List Int) (g : Nat → Int → Int) {i : Int} (h0 : 0 ≤ i) (h1 : i < 256) (f : Int → Option zR) : zal xs (HH g) (some pM_before) i f = f (g pM_before i) := HH_al (p := pM_before) (n := 256) rfl (by decide) (by decide) h0 h1 f
theorem pM_s_before (g : Nat → Int → Int) {i : Int} (v : Int) (h0 : 0 ≤ i) (h1 : i < 256) (f : zH → Option zR) : zst (HH g) (some pM_before) 101 i (.inr (.inl v)) f = f (HH (up g pM_before i v)) := HH_stl (p := pM_before) (n := 256) rfl (by decide) (by decide) h0 h1 f
theorem pM_g_keptThings (g : Nat → Int → Int) (f : Int → Option zR) : zgi (HH g) (some pM) 7 22 f = f (g pM 22) := HH_gi (p := pM) (j := 22) rfl (by decide) rfl rfl f
theorem pM_p_keptThings (g : Nat → Int → Int) (v : Int) (f : zH → Option zR) : zpf (HH g) (some pM) 7 22 (.inl v) f = f (HH (up g pM 22 v)) := HH_pf (p := pM) (j := 22) rfl (by decide) rfl rfl f
theorem pM_g_keptNotes (g : Nat → Int → Int) (f : Int → Option zR) : zgi (HH g) (some pM) 7 23 f = f (g pM 23) := HH_gi (p := pM) (j := 23) rfl (by decide) rfl rfl f
theorem pM_p_keptNotes (g : Nat → Int → Int) (v : Int) (f : zH → Option zR) : zpf (HH g) (some pM) 7 23 (.inl v) f = f (HH (up g pM 23 v)) := HH_pf (p := pM) (j := 23) rfl (by decide) rfl rfl f
abbrev pM_keptWeights : Nat := 279
theorem pM_r_keptWeights (g : Nat → Int → Int) (f : Option Nat → Option zR) : zgr (HH g) (some pM) 7 24 f = f (some pM_keptWeights) := HH_gr (p := pM) (j := 24) rfl (by decide) rfl rfl f
theorem pM_a_keptWeights (xs : List Int) (g : Nat → Int → Int) {i : Int} (h0 : 0 ≤ i) (h1 : i < 8) (f : Int → Option zR) : zai xs (HH g) (some pM_keptWeights) i f = f (g pM_keptWeights i) := HH_ai (p := pM_keptWeights) (n := 8) rfl (by decide) (by decide) h0 h1 f
theorem pM_s_keptWeights (g : Nat → Int → Int) {i : Int} (v : Int) (h0 : 0 ≤ i) (h1 : i < 8) (f : zH → Option zR) : zst (HH g) (some pM_keptWeights) 100 i (.inl v) f = f (HH (up g pM_keptWeights i v)) := HH_st (p := pM_keptWeights) (n := 8) rfl (by decide) (by decide) h0 h1 f
abbrev pM_keptRows : Nat := 280
theorem pM_r_keptRows (g : Nat → Int → Int) (f : Option Nat → Option zR) : zgr (HH g) (some pM) 7 25 f = f (some pM_keptRows) := HH_gr (p := pM) (j := 25) rfl (by decide) rfl rfl f
theorem pM_a_keptRows (xs : List Int) (g : Nat → Int → Int) {i : Int} (h0 : 0 ≤ i) (h1 : i < 100) (f : Int → Option zR) : zai xs (HH g) (some pM_keptRows) i f = f (g pM_keptRows i) := HH_ai (p := pM_keptRows) (n := 100) rfl (by decide) (by decide) h0 h1 f
theorem pM_s_keptRows (g : Nat → Int → Int) {i : Int} (v : Int) (h0 : 0 ≤ i) (h1 : i < 100) (f : zH → Option zR) : zst (HH g) (some pM_keptRows) 100 i (.inl v) f = f (HH (up g pM_keptRows i v)) := HH_st (p := pM_keptRows) (n := 100) rfl (by decide) (by decide) h0 h1 f
theorem pM_g_hash (g : Nat → Int → Int) (f : Int → Option zR) : zgl (HH g) (some pM) 7 26 f = f (g pM 26) := HH_gl (p := pM) (j := 26) rfl (by decide) rfl rfl f
theorem pM_p_hash (g : Nat → Int → Int) (v : Int) (f : zH → Option zR) : zpf (HH g) (some pM) 7 26 (.inr (.inl v)) f = f (HH (up g pM 26 v)) := HH_pfl (p := pM) (j := 26) rfl (by decide) rfl rfl f
abbrev pX : Nat := 1
theorem pX_ck (g : Nat → Int → Int) (o : Option zR) : zck (HH g) (some pX) 6 o = o := HH_ck (p := pX) rfl (by decide) rfl o
abbrev pX_signals : Nat := 2
theorem pX_r_signals (g : Nat → Int → Int) (f : Option Nat → Option zR) : zgr (HH g) (some pX) 6 0 f = f (some pX_signals) := HH_gr (p := pX) (j := 0) rfl (by decide) rfl rfl f
abbrev pX_weights : Nat := 11
theorem pX_r_weights (g : Nat → Int → Int) (f : Option Nat → Option zR) : zgr (HH g) (some pX) 6 1 f = f (some pX_weights) := HH_gr (p := pX) (j := 1) rfl (by decide) rfl rfl f
abbrev pX_codes : Nat := 13
theorem pX_r_codes (g : Nat → Int → Int) (f : Option Nat → Option zR) : zgr (HH g) (some pX) 6 2 f = f (some pX_codes) := HH_gr (p := pX) (j := 2) rfl (by decide) rfl rfl f
theorem pX_g_codesRead (g : Nat → Int → Int) (f : Int → Option zR) : zgi (HH g) (some pX) 6 3 f = f (g pX 3) := HH_gi (p := pX) (j := 3) rfl (by decide) rfl rfl f
theorem pX_p_codesRead (g : Nat → Int → Int) (v : Int) (f : zH → Option zR) : zpf (HH g) (some pX) 6 3 (.inl v) f = f (HH (up g pX 3 v)) := HH_pf (p := pX) (j := 3) rfl (by decide) rfl rfl f
abbrev pX_page : Nat := 14
theorem pX_r_page (g : Nat → Int → Int) (f : Option Nat → Option zR) : zgr (HH g) (some pX) 6 4 f = f (some pX_page) := HH_gr (p := pX) (j := 4) rfl (by decide) rfl rfl f
abbrev pX_notes : Nat := 16
theorem pX_r_notes (g : Nat → Int → Int) (f : Option Nat → Option zR) : zgr (HH g) (some pX) 6 5 f = f (some pX_notes) := HH_gr (p := pX) (j := 5) rfl (by decide) rfl rfl f
abbrev pX_keptWeights : Nat := 43
theorem pX_r_keptWeights (g : Nat → Int → Int) (f : Option Nat → Option zR) : zgr (HH g) (some pX) 6 6 f = f (some pX_keptWeights) := HH_gr (p := pX) (j := 6) rfl (by decide) rfl rfl f
abbrev pX_keptNotes : Nat := 45
theorem pX_r_keptNotes (g : Nat → Int → Int) (f : Option Nat → Option zR) : zgr (HH g) (some pX) 6 7 f = f (some pX_keptNotes) := HH_gr (p := pX) (j := 7) rfl (by decide) rfl rfl f
theorem pX_g_kept (g : Nat → Int → Int) (f : Int → Option zR) : zgi (HH g) (some pX) 6 8 f = f (g pX 8) := HH_gi (p := pX) (j := 8) rfl (by decide) rfl rfl f
theorem pX_p_kept (g : Nat → Int → Int) (v : Int) (f : zH → Option zR) : zpf (HH g) (some pX) 6 8 (.inl v) f = f (HH (up g pX 8 v)) := HH_pf (p := pX) (j := 8) rfl (by decide) rfl rfl f
abbrev pX_said : Nat := 72
theorem pX_r_said (g : Nat → Int → Int) (f : Option Nat → Option zR) : zgr (HH g) (some pX) 6 9 f = f (some pX_said) := HH_gr (p := pX) (j := 9) rfl (by decide) rfl rfl f
abbrev pX_heard : Nat := 74
theorem pX_r_heard (g : Nat → Int → Int) (f : Option Nat → Option zR) : zgr (HH g) (some pX) 6 10 f = f (some pX_heard) := HH_gr (p := pX) (j := 10) rfl (by decide) rfl rfl f
abbrev pX_pool : Nat := 76
theorem pX_r_pool (g : Nat → Int → Int) (f : Option Nat → Option zR) : zgr (HH g) (some pX) 6 11 f = f (some pX_pool) := HH_gr (p := pX) (j := 11) rfl (by decide) rfl rfl f
abbrev pX_struck : Nat := 78
theorem pX_r_struck (g : Nat → Int → Int) (f : Option Nat → Option zR) : zgr (HH g) (some pX) 6 12 f = f (some pX_struck) := HH_gr (p := pX) (j := 12) rfl (by decide) rfl rfl f
abbrev pX_readings : Nat := 98
theorem pX_r_readings (g : Nat → Int → Int) (f : Option Nat → Option zR) : zgr (HH g) (some pX) 6 13 f = f (some pX_readings) := HH_gr (p := pX) (j := 13) rfl (by decide) rfl rfl f
end
